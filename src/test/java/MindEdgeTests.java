/** Promises 1 and 4 to 39 but the text and the refusals: each sentence that names an edge, with a test of its own. */
public final class MindEdgeTests {
    /** Nine directories and a file, each in the one before it. */
    private static final String CHAIN =
        "e00a1;e10a2;e20a3;e30a4;e40a5;e50a6;e60a7;e70a8;e80a9;k12;k22;k32;k42;k52;k62;k72;k82;k91;";
    /** Inode 0 has four files; links and maps are not asked for. */
    private static final String FULL = "r14;r15;r16;k11;k21;k31;k41;e00a1;e01b2;e02c3;e03d4;";

    private MindEdgeTests() {
    }

    public static void main(String[] args) {
        theLastCall();
        newObject();
        countsOfAnInode();
        pointersOfABlock();
        whatCallsAnswer();
        marksOfAll();
        refusesAndNoMore();
        questionsInMind();
        soundInMind();
        depths();
        below();
        blocksBelow();
        largestOfTen();
        largestOfOne();
        second();
        losesInodes();
        losesBlocks();
        losesEntries();
        mendOfNone();
        mendOfSome();
        worst();
        shared();
        free();
        damageOfNoneAndAll();
        damageOfOneToSix();
        damageInLeastTerms();
        mean();
        whatItIsByNoRow();
        whatItIsByRows();
        whatItIsByNumbers();
        rowAndClear();
        judgedInodes();
        judgedRows();
        lotsByHand();
        lotsOfNumbersAbove();
        lotsOfSeeds();
        lotsChangeNothing();
        refusedInMind();
        refusedInRows();
        imageOfAll();
        imageAgain();
        bitsOfCount();
        Due.end("MindEdgeTests");
    }

    private static void fraction(String call, long above, long below, long dueAbove, long dueBelow) {
        Due.is(call + ", above", above, dueAbove);
        Due.is(call + ", below", below, dueBelow);
    }

    /** "An object is used for at most 512 calls": the last of them answers as the first. */
    private static void theLastCall() {
        VolumeInFivePasses x = new VolumeInFivePasses();
        for (int i = 1; i <= 510; i++) {
            Due.is("call " + i, x.marks(0, 23), i % 2);
        }
        Due.is("call 511", x.on(), -3);
        Due.is("call 512", x.count(13), 1);
    }

    /** Promise 1: as it is made, and what a CHECK would ask of it. */
    private static void newObject() {
        VolumeInFivePasses x = new VolumeInFivePasses();
        Due.is("new: inodes", x.count(0), 1);
        Due.is("new: directories", x.count(1), 1);
        for (int what = 2; what <= 7; what++) {
            Due.is("new: count(" + what + ")", x.count(what), 0);
        }
        Due.is("new: kind", x.inode(0, 0), 2);
        Due.is("new: asked", Told.asked(x), "16,0,0");
        Due.is("new: check", x.check(), 1);
        Due.is("new: check again", x.check(), 0);
    }

    /** Promise 4: HOLDS and LISTS of each KIND, ENTRIES from none to six. */
    private static void countsOfAnInode() {
        int[] holds = {0, 3, 1, 0, 2, 1};
        int[] lists = {0, 0, 4, 0, 0, 6};
        for (int i : new int[] {0, 9}) {
            VolumeInFivePasses x = new VolumeInFivePasses();
            for (int kind = 0; kind <= 5; kind++) {
                x.kind(i, kind);
                Due.is("kind of " + i, x.inode(i, 0), kind);
                Due.is("holds of kind " + kind, x.inode(i, 4), holds[kind]);
                Due.is("lists of kind " + kind, x.inode(i, 5), lists[kind]);
            }
            x.kind(i, 0);
            Due.is("no entries", x.inode(i, 6), 0);
            for (int s = 5; s >= 0; s--) {
                x.enters(i, s, 0, 0);
                Due.is("entries, of a none too", x.inode(i, 6), 6 - s);
            }
            x.links(i, 9, 9);
            Due.is("the most links", x.inode(i, 1), 9);
            Due.is("the greatest parent", x.inode(i, 2), 9);
        }
    }

    /** Promise 7: "how many POINTERS are to it", none to thirty. */
    private static void pointersOfABlock() {
        VolumeInFivePasses x = new VolumeInFivePasses();
        for (int i = 0; i < 30; i++) {
            Due.is("pointers to 23", x.block(23, 2), i);
            x.points(i / 3, i % 3, 23);
        }
        Due.is("all pointers to 23", x.block(23, 2), 30);
        Due.is("none to 0", x.block(0, 2), 0);
        x.points(0, 0, 0);
        x.points(0, 1, 24);
        x.points(0, 2, 99);
        Due.is("fewer to 23", x.block(23, 2), 27);
        Due.is("one to 0", x.block(0, 2), 1);
    }

    /** Promises 8 to 14: what was there, at the least and the greatest. */
    private static void whatCallsAnswer() {
        VolumeInFivePasses x = new VolumeInFivePasses();
        Due.is("the kind it had", x.kind(9, 5), 0);
        Due.is("the kind it had again", x.kind(9, 5), 5);
        Due.is("the kind 0", x.kind(9, 0), 5);
        Due.is("points to none that is none", x.points(9, 2, 99), 1);
        Due.is("points to 98", x.points(9, 2, 98), 1);
        Due.is("pointer to 98", x.pointer(9, 2), 98);
        Due.is("enters the least", x.enters(0, 0, 0, 0), 1);
        Due.is("the least entry", x.slot(0, 0), 0);
        Due.is("enters the greatest", x.enters(9, 5, 25, 9), 1);
        Due.is("the greatest entry", x.slot(9, 5), 259);
        Due.is("empties an entry of 0", x.empties(0, 0), 1);
        Due.is("empties what is empty", x.empties(0, 0), 0);
        Due.is("links that were least", x.links(0, 9, 9), 0);
        Due.is("links that were greatest", x.links(0, 0, 0), 99);
        Due.is("byte that was least", x.writes(0, 99), 0);
        Due.is("byte that was greatest", x.writes(0, 0), 99);
        Due.is("byte now", x.block(0, 0), 0);
    }

    /** Promise 13: each of the 24 and of the 10, by itself. */
    private static void marksOfAll() {
        VolumeInFivePasses x = new VolumeInFivePasses();
        for (int b = 0; b < 24; b++) {
            Due.is("marks block " + b, x.marks(0, b), 1);
            Due.is("marked are", x.count(3), (2 << b) - 1);
        }
        for (int i = 0; i < 10; i++) {
            Due.is("marks inode " + i, x.marks(1, i), 1);
            Due.is("marked are", x.count(4), (2 << i) - 1);
        }
        Due.is("as a block tells", x.block(0, 1) * 10 + x.block(23, 1), 11);
        Due.is("as an inode tells", x.inode(0, 3) * 10 + x.inode(9, 3), 11);
        Due.is("not marked any more", x.marks(0, 0), 0);
        Due.is("the others are", x.count(3), (1 << 24) - 2);
        Due.is("not marked any more", x.marks(1, 0), 0);
        Due.is("the others are", x.count(4), 1022);
        Due.is("as that block tells", x.block(0, 1) * 10 + x.block(23, 1), 1);
        Due.is("as that inode tells", x.inode(0, 3) * 10 + x.inode(9, 3), 1);
    }

    /** Promise 15: "1, 0": each of the five, while the others are refused and while they are not. */
    private static void refusesAndNoMore() {
        VolumeInFivePasses x = new VolumeInFivePasses();
        int[] reasons = {4, 12, 14, 15, 16};
        int bits = 0;
        for (int reason : reasons) {
            bits |= 1 << reason;
            Due.is("refused is " + reason, x.refuses(reason), 1);
            Due.is("refused are", x.count(5), bits);
        }
        for (int reason : reasons) {
            bits &= ~(1 << reason);
            Due.is("refused no more is " + reason, x.refuses(reason), 0);
            Due.is("refused are", x.count(5), bits);
        }
    }

    /** Promises 17 to 19: the first and the last QUESTION, the least and the greatest REASON. */
    private static void questionsInMind() {
        VolumeInFivePasses x = Told.made("k00;m23;");
        Due.is("all", x.questions(0), 3);
        Due.is("of the least reason", x.questions(1), 1);
        Due.is("of the greatest reason", x.questions(16), 1);
        Due.is("of one between", x.questions(9), 0);
        Due.is("reasons", x.reasons(), 1 << 1 | 1 << 15 | 1 << 16);
        Due.is("the first", x.question(0, 0), 1);
        Due.is("the last", x.question(2, 0), 16);
        Due.is("the last but one: who", x.question(1, 1), 23);
        Due.is("the last but one: place", x.question(1, 2), 0);
        Due.is("behind the last", x.question(3, 0), -1);
        Due.is("ahead of the first", x.question(-1, 0), -1);
        Due.is("in mind alone", x.inode(0, 0), 0);
        x.marks(0, 23);
        Due.is("reasons as it is now, asked first", x.reasons(), 1 << 1 | 1 << 16);
        x.marks(1, 0);
        Due.is("a question as it is now, asked first", x.question(0, 0), 1);
        x.kind(0, 5);
        Due.is("sound as it is now, asked first", x.sound(), 1);
    }

    /** Promises 18 to 20: no QUESTION at all. */
    private static void soundInMind() {
        VolumeInFivePasses x = Told.made("u0;");
        Due.is("sound", x.sound(), 1);
        Due.is("sound: questions", x.questions(0), 0);
        Due.is("sound: reasons", x.reasons(), 0);
        Due.is("sound: the first", x.question(0, 0), -1);
        Due.is("sound: a check", x.check(), 0);
        x.refuses(16);
        x.marks(1, 0);
        Due.is("sound, as the reason is refused", x.sound(), 1);
        x.refuses(16);
        Due.is("not sound", x.sound(), 0);
    }

    /** Promise 21: "DEPTH of an INODE: how many ENTRIES from INODE 0 on to it, at least (0 of INODE 0; -9 NONE)" */
    private static void depths() {
        VolumeInFivePasses x = Told.made(CHAIN);
        for (int i = 0; i < 10; i++) {
            Due.is("depth of " + i, x.then(i, 3), i);
        }
        x.enters(3, 1, 1, 9);
        Due.is("the least of two ways", x.then(9, 3), 4);
        x.enters(0, 3, 25, 9);
        Due.is("the least of three ways", x.then(9, 3), 1);
        VolumeInFivePasses y = new VolumeInFivePasses();
        Due.is("of inode 0", y.then(0, 3), 0);
        Due.is("of none", y.then(9, 3), -9);
        Due.is("of inode 0, none now", kind(y, 0, 0).then(0, 3), 0);
        Due.is("of one attached then", kind(y, 9, 1).then(9, 3), 1);
        VolumeInFivePasses lost = Told.made(FULL + "k52;");
        Due.is("of one lost then", lost.then(5, 3), -9);
    }

    private static VolumeInFivePasses kind(VolumeInFivePasses x, int inode, int kind) {
        x.kind(inode, kind);
        return x;
    }

    /** Promise 21: "BELOW a DIRECTORY: how many INODES can be reached by ENTRIES from it, but itself" */
    private static void below() {
        VolumeInFivePasses x = Told.made(CHAIN);
        for (int i = 0; i < 9; i++) {
            Due.is("below " + i, x.then(i, 4), 9 - i);
        }
        Due.is("below a file", x.then(9, 4), -9);
        x.kind(9, 5);
        Due.is("below an empty directory", x.then(9, 4), 0);
        x.kind(9, 3);
        Due.is("below a link", x.then(9, 4), -9);
        x.kind(9, 4);
        Due.is("below a log", x.then(9, 4), -9);
        x.enters(8, 1, 1, 9);
        Due.is("an inode twice counts once", x.then(8, 4), 1);
        VolumeInFivePasses y = new VolumeInFivePasses();
        Due.is("below inode 0, alone", y.then(0, 4), 0);
        Due.is("below none", y.then(9, 4), -9);
        Due.is("below inode 0, none now", kind(y, 0, 0).then(0, 4), 0);
        Due.is("below one lost then", Told.made(FULL + "k52;").then(5, 4), -9);
    }

    /** Inode 0 (a HOME) has 1 (a HOME) and files 2 .. 6, that has 7 .. 9; the files have all blocks, from 0 on. */
    private static VolumeInFivePasses allBlocks() {
        VolumeInFivePasses x = Told.made("k05;k15;e00a1;e01b2;e02c3;e03d4;e04e5;e05f6;e10a7;e11b8;e12c9;");
        for (int b = 0; b < 24; b++) {
            x.kind(2 + b / 3, 1);
            x.points(2 + b / 3, b % 3, b);
        }
        return x;
    }

    /** Promise 21: "BLOCKS BELOW: how many BLOCKS POINTERS of it and of these are to, each once", none to all. */
    private static void blocksBelow() {
        VolumeInFivePasses x = allBlocks();
        Due.is("all blocks", x.then(0, 5), 24);
        Due.is("of a directory in it", x.then(1, 5), 9);
        Due.is("of a file", x.then(9, 5), 3);
        x.refuses(4);
        Told.make(x, "p0023;p1000;");
        Due.is("all blocks, some twice", x.then(0, 5), 24);
        Due.is("its own and those below", x.then(1, 5), 10);
        x.points(1, 0, 22);
        Due.is("its own is one below", x.then(1, 5), 9);
        Told.make(x, "p9005;p9105;p9205;");
        Due.is("of a file, each once", x.then(9, 5), 1);
        VolumeInFivePasses y = Told.made("p9005;k23;k34;e00a2;e01b3;p3000;p3101;p3202;p2007;");
        Due.is("of none", y.then(9, 5), 0);
        Due.is("of a link", y.then(2, 5), 0);
        Due.is("of a log", y.then(3, 5), 2);
        Due.is("of inode 0", y.then(0, 5), 2);
        y.points(0, 0, 23);
        Due.is("of inode 0, its own too", y.then(0, 5), 3);
        Due.is("of a new inode 0", new VolumeInFivePasses().then(0, 5), 0);
    }

    /** Promise 24: ten that are not NONE, "most first, then by numbers" */
    private static void largestOfTen() {
        VolumeInFivePasses x = allBlocks();
        for (int i = 0; i < 10; i++) {
            Due.is("of ten, by numbers, " + i, x.largest(i), i);
        }
        Told.make(x, "p2299;p2199;p2099;p3299;");
        int[] due = {0, 1, 4, 5, 6, 7, 8, 9, 3, 2};
        for (int i = 0; i < 10; i++) {
            Due.is("of ten, most first, " + i, x.largest(i), due[i]);
        }
        Told.make(x, "k90;");
        Due.is("of nine, the last", x.largest(8), 2);
        Due.is("of nine, no tenth", x.largest(9), -9);
    }

    /** Promise 24: one that is not NONE; "-9 there are not so many"; behind a CHECK. */
    private static void largestOfOne() {
        VolumeInFivePasses x = new VolumeInFivePasses();
        Due.is("of one", x.largest(0), 0);
        for (int i = 1; i < 10; i++) {
            Due.is("of one, no more", x.largest(i), -9);
        }
        x.kind(0, 0);
        Due.is("of none now, of one then", x.largest(0), 0);
        VolumeInFivePasses full = Told.made(FULL + "k52;p5009;");
        Due.is("a lost one is none then", full.largest(4) * 100 + full.largest(5), 391);
        VolumeInFivePasses order = Told.made("k11;k92;e00a1;e01b9;p1000;p9005;e90a8;k81;p8006;");
        int[] due = {0, 9, 1, 8, -9};
        for (int i = 0; i < due.length; i++) {
            Due.is("a directory by those below it, " + i, order.largest(i), due[i]);
        }
    }

    /** Promise 25: a CHECK leaves nothing to ask, with all, with some, with no REASON refused. */
    private static void second() {
        String wrong = "i0f99;i1d02;i2d01;e10a2;e20a1;i3f00;p3005;p3105;p3298;e31a0;i4g00;p4005;m00;m05;u9;k52;k62;k72;";
        for (int refused = 0; refused < 32; refused++) {
            VolumeInFivePasses x = Told.made(wrong);
            int[] reasons = {4, 12, 14, 15, 16};
            for (int i = 0; i < 5; i++) {
                if ((refused >> i & 1) != 0) {
                    x.refuses(reasons[i]);
                }
            }
            Due.is("second, refused " + refused, x.second(), 0);
            Due.is("second is in mind alone", x.sound(), 0);
            x.check();
            Due.is("sound behind a check", x.sound(), 1);
            Due.is("second behind a check", x.second(), 0);
        }
    }

    /** Promise 26: "how many INODES are not NONE now and NONE behind a CHECK" */
    private static void losesInodes() {
        Due.is("none lost", new VolumeInFivePasses().loses(0), 0);
        Due.is("none lost, inode 0 is none now", kind(new VolumeInFivePasses(), 0, 0).loses(0), 0);
        Due.is("four have room", Told.made("k11;k21;k31;k42;").loses(0), 0);
        Due.is("a fifth has none", Told.made("k11;k21;k31;k42;k51;").loses(0), 1);
        Due.is("of nine", Told.made("k11;k21;k31;k42;k51;k61;k72;k85;k93;").loses(0), 5);
        Due.is("of nine, a home has six", Told.made("k05;k11;k21;k31;k42;k51;k61;k72;k85;k93;").loses(0), 3);
    }

    /** Promise 26: "how many BLOCKS (to which POINTERS are now) have no POINTER to them then" */
    private static void losesBlocks() {
        StringBuilder all = new StringBuilder();
        for (int b = 0; b < 24; b++) {
            all.append('p').append(1 + b / 3).append(b % 3).append(String.valueOf(100 + b).substring(1)).append(';');
        }
        Due.is("no block", new VolumeInFivePasses().loses(1), 0);
        Due.is("all blocks", Told.made(all.toString()).loses(1), 24);
        Due.is("all but one", Told.made(all + "p0023;").loses(1), 23);
        Due.is("numbers above are no blocks", Told.made("p0024;p1098;").loses(1), 0);
        Due.is("two pointers, a block", Told.made("p1005;p2005;").loses(1), 1);
        Due.is("a clone loses none", Told.made("k11;e00a1;p0005;p1005;").loses(1), 0);
    }

    /** Promise 26: "how many ENTRIES .. there are less then than now (0 at least)" */
    private static void losesEntries() {
        Due.is("no entry", new VolumeInFivePasses().loses(2), 0);
        Due.is("one more then", Told.made("k12;").loses(2), 0);
        Due.is("one less, one more", Told.made("k12;e00a0;").loses(2), 0);
        Due.is("one less", Told.made("e00a0;").loses(2), 1);
        Due.is("two less, one more", Told.made("k12;e00a0;e95a9;").loses(2), 1);
        Due.is("moved", Told.made("k12;e10a1;").loses(2), 0);
        VolumeInFivePasses x = new VolumeInFivePasses();
        for (int i = 0; i < 60; i++) {
            x.enters(i / 6, i % 6, i % 26, 0);
        }
        Due.is("all sixty", x.loses(2), 60);
    }

    /** Promise 27: "-9", when no INODE leaves fewer; never INODE 0. */
    private static void mendOfNone() {
        VolumeInFivePasses sound = Told.made("u0;");
        Due.is("sound", sound.mend(0), -9);
        Due.is("sound, questions", sound.mend(1), -9);
        VolumeInFivePasses x = Told.made("i0d99;p0098;e05a1;");
        Due.is("of inode 0 alone", x.mend(0), -9);
        Due.is("of inode 0 alone, questions", x.mend(1), -9);
        VolumeInFivePasses same = Told.made("u0;u1;i1f10;");
        Due.is("as many as it is", same.questions(0), 1);
        Due.is("as many as it is are not fewer", same.mend(0), -9);
    }

    /** Promise 27: "fewest QUESTIONS, fewer than as it is, of several the least" */
    private static void mendOfSome() {
        VolumeInFivePasses x = Told.made("u0;i1f00;i9f00;");
        Due.is("asked", Told.asked(x), "13,1,0 14,1,0 13,9,1 14,9,0 16,1,0 16,9,0");
        Due.is("of two the least", x.mend(0), 1);
        Due.is("of two the least, questions", x.mend(1), 3);
        x.points(9, 0, 5);
        Due.is("the fewest is the greatest", x.mend(0), 9);
        Due.is("the fewest is the greatest, questions", x.mend(1), 3);
        VolumeInFivePasses one = Told.made("u0;u9;i9f10;");
        Due.is("one question by one question", one.mend(0), -9);
        one.points(9, 0, 5);
        Due.is("two questions by one", one.mend(0), 9);
        Due.is("two questions by one, how many", one.mend(1), 1);
        VolumeInFivePasses none = Told.made("u0;p9000;");
        Due.is("a none", none.mend(0), 9);
        Due.is("a none, no question is left", none.mend(1), 0);
        Due.is("in mind alone", none.pointer(9, 0), 0);
    }

    /** Promise 28: "of several the least; -9" */
    private static void worst() {
        Due.is("none", Told.made("u0;").worst(), -9);
        Due.is("one", new VolumeInFivePasses().worst(), 16);
        Due.is("the least reason of two", Told.made("k00;").worst(), 1);
        Due.is("the greatest, with most", Told.made("k00;u9;").worst(), 16);
        Due.is("of two with two the least", Told.made("p0105;p0205;u9;").worst(), 2);
        Due.is("all refused", Told.made("r16;").worst(), -9);
    }

    /** Promise 29: "BLOCKS (bits) to which two POINTERS or more are" */
    private static void shared() {
        VolumeInFivePasses x = new VolumeInFivePasses();
        Due.is("no pointer", x.shared(0), 0);
        for (int b = 0; b < 24; b++) {
            x.points(b / 3, b % 3, b);
        }
        Due.is("one each", x.shared(0), 0);
        Told.make(x, "p8000;p9223;");
        Due.is("two of the least and the greatest", x.shared(0), 1 << 23 | 1);
        Told.make(x, "p8100;p9123;");
        Due.is("three of each", x.shared(0), 1 << 23 | 1);
        VolumeInFivePasses above = Told.made("p0024;p1024;p2098;p3098;p4032;p5032;p6099;");
        Due.is("numbers above are no blocks", above.shared(0), 0);
        VolumeInFivePasses all = new VolumeInFivePasses();
        for (int i = 0; i < 30; i++) {
            all.points(i / 3, i % 3, i / 2);
        }
        Due.is("fifteen by two", all.shared(0), (1 << 15) - 1);
    }

    /** Promise 29: "FREE: the least BLOCK to which none is; -9" */
    private static void free() {
        VolumeInFivePasses x = new VolumeInFivePasses();
        for (int b = 0; b < 24; b++) {
            Due.is("the least is " + b, x.shared(1), b);
            x.points(b / 3, b % 3, b);
        }
        Due.is("none is free", x.shared(1), -9);
        x.points(7, 2, 24);
        Due.is("the greatest is free", x.shared(1), 23);
        x.points(0, 0, 99);
        Due.is("the least is free", x.shared(1), 0);
        x.marks(0, 0);
        Due.is("whether it is marked or not", x.shared(1), 0);
    }

    /** Promise 30: v from 0 to 10, t from 2 to 20, with one INODE and with ten. */
    private static void damageOfNoneAndAll() {
        VolumeInFivePasses one = new VolumeInFivePasses();
        for (int t : new int[] {2, 20}) {
            fraction("of one, 0 or more", one.damage(0, t, 0), one.damage(0, t, 1), 1, 1);
            fraction("of one, 1 or more", one.damage(1, t, 0), one.damage(1, t, 1), 1, 1);
            fraction("of one, 2 or more", one.damage(2, t, 0), one.damage(2, t, 1), 0, 1);
            fraction("of one, 10 or more", one.damage(10, t, 0), one.damage(10, t, 1), 0, 1);
        }
        VolumeInFivePasses ten = allBlocks();
        fraction("of ten, 10 or more by halves", ten.damage(10, 2, 0), ten.damage(10, 2, 1), 1, 64);
        fraction("of ten, 10 or more by twentieths", ten.damage(10, 20, 0), ten.damage(10, 20, 1), 47045881, 64000000);
        fraction("of ten, 0 or more", ten.damage(0, 20, 0), ten.damage(0, 20, 1), 1, 1);
        fraction("of ten, 4 or more", ten.damage(4, 20, 0), ten.damage(4, 20, 1), 1, 1);
        fraction("of ten, 5 or more", ten.damage(5, 20, 0), ten.damage(5, 20, 1), 63999999, 64000000);
        fraction("of ten, 5 or more by halves", ten.damage(5, 2, 0), ten.damage(5, 2, 1), 63, 64);
        Due.is("of ten, in mind alone", ten.count(0), 1023);
    }

    /** Promise 30: "each of INODES 1 .. 6, by itself, is wiped": neither 0 nor 7 .. 9. */
    private static void damageOfOneToSix() {
        for (int i = 1; i <= 9; i++) {
            VolumeInFivePasses x = Told.made("k" + i + "1;");
            fraction("of inode " + i, x.damage(2, 3, 0), x.damage(2, 3, 1), i <= 6 ? 2 : 1, i <= 6 ? 3 : 1);
            fraction("of inode " + i + ", at most", x.damage(3, 3, 0), x.damage(3, 3, 1), 0, 1);
        }
        VolumeInFivePasses zero = Told.made("k00;");
        fraction("of inode 0", zero.damage(1, 2, 0), zero.damage(1, 2, 1), 1, 1);
        VolumeInFivePasses room = Told.made("k62;k71;k81;k91;k12;");
        fraction("five for four slots", room.damage(5, 2, 0), room.damage(5, 2, 1), 3, 4);
        fraction("five for four slots, all", room.damage(6, 2, 0), room.damage(6, 2, 1), 0, 1);
        VolumeInFivePasses below = Told.made("k12;k71;e00a1;e10a7;");
        fraction("what is below a wiped one is attached", below.damage(2, 2, 0), below.damage(2, 2, 1), 1, 1);
    }

    /** Promise 30: "Fractions in least terms (0 by 1, if nothing)." */
    private static void damageInLeastTerms() {
        VolumeInFivePasses two = Told.made("k11;k21;");
        fraction("both, t 2", two.damage(3, 2, 0), two.damage(3, 2, 1), 1, 4);
        fraction("both, t 20", two.damage(3, 20, 0), two.damage(3, 20, 1), 361, 400);
        fraction("one or both, t 2", two.damage(2, 2, 0), two.damage(2, 2, 1), 3, 4);
        fraction("one or both, t 3", two.damage(2, 3, 0), two.damage(2, 3, 1), 8, 9);
        fraction("one or both, t 20", two.damage(2, 20, 0), two.damage(2, 20, 1), 399, 400);
        VolumeInFivePasses three = Told.made("k11;k21;k31;");
        fraction("two or three of three, t 2", three.damage(3, 2, 0), three.damage(3, 2, 1), 1, 2);
        fraction("two or three of three, t 3", three.damage(3, 3, 0), three.damage(3, 3, 1), 20, 27);
        fraction("none of three", three.damage(5, 3, 0), three.damage(5, 3, 1), 0, 1);
    }

    /** Promise 31: "POINTERS to BLOCKS (0 .. 23) of all INODES by INODES that are not NONE"; "0 by 1, if none is" */
    private static void mean() {
        VolumeInFivePasses x = new VolumeInFivePasses();
        fraction("no pointer", x.mean(0), x.mean(1), 0, 1);
        for (int i = 0; i < 30; i++) {
            x.points(i / 3, i % 3, i % 24);
        }
        fraction("thirty by one", x.mean(0), x.mean(1), 30, 1);
        x.kind(0, 0);
        fraction("thirty by none", x.mean(0), x.mean(1), 0, 1);
        for (int i = 0; i < 10; i++) {
            x.kind(i, 3);
        }
        fraction("thirty by ten", x.mean(0), x.mean(1), 3, 1);
        Told.make(x, "p0024;p0198;");
        fraction("twenty-eight by ten", x.mean(0), x.mean(1), 14, 5);
        Told.make(x, "p0023;p0100;p0299;k90;");
        fraction("twenty-nine by nine", x.mean(0), x.mean(1), 29, 9);
        VolumeInFivePasses y = Told.made("k11;k21;k31;p0023;p9023;");
        fraction("two by four", y.mean(0), y.mean(1), 1, 2);
    }

    /** Promise 32: "it may tell fewer", none even: all KINDS, all NUMBERS. */
    private static void whatItIsByNoRow() {
        VolumeInFivePasses x = new VolumeInFivePasses();
        for (int i : new int[] {0, 9}) {
            Due.is("kinds of " + i, x.whatIs(i, 0), 63);
            Due.is("numbers of " + i, x.whatIs(i, 1), 1023);
        }
        x.row(0);
        Due.is("no reason is 0: kinds", x.whatIs(0, 0), 0);
        Due.is("no reason is 0: numbers", x.whatIs(0, 1), 0);
        x.clear();
        x.row(99);
        Due.is("no reason is 99", x.whatIs(9, 0), 0);
    }

    /** Promise 32: "as many as it tells": all of them, one more, a wrong one at either end; "(it stays)". */
    private static void whatItIsByRows() {
        VolumeInFivePasses x = Told.made("u0;");
        x.row(13);
        Due.is("attached", x.whatIs(9, 0), 1 << 1 | 1 << 3 | 1 << 4);
        x.row(14);
        x.row(16);
        Due.is("all of them", x.whatIs(9, 0), 1 << 1 | 1 << 3 | 1 << 4);
        x.row(16);
        Due.is("one more", x.whatIs(9, 0), 0);
        Due.is("the row stays", x.clear(), 4);
        for (int v : new int[] {10, 14, 16}) {
            x.row(v);
        }
        Due.is("a directory", x.whatIs(9, 0), 1 << 2 | 1 << 5);
        x.clear();
        x.row(10);
        x.row(13);
        Due.is("the second is wrong", x.whatIs(9, 0), 0);
        x.clear();
        x.row(1);
        Due.is("inode 0", x.whatIs(0, 0), 1 | 1 << 1 | 1 << 3 | 1 << 4);
        Due.is("in mind alone", x.inode(0, 0) * 10 + x.inode(9, 0), 20);
        VolumeInFivePasses full = new VolumeInFivePasses();
        for (int b = 0; b < 24; b++) {
            full.marks(0, b);
        }
        for (int i = 0; i < 24; i++) {
            full.row(15);
        }
        Due.is("twenty-four and no more told", full.whatIs(0, 0), 1 << 2 | 1 << 5);
        Due.is("twenty-four, of a none", full.whatIs(9, 0), 1);
        full.row(16);
        Due.is("all twenty-five", full.whatIs(0, 0), 1 << 2 | 1 << 5);
        full.row(16);
        Due.is("one more than twenty-five", full.whatIs(0, 0), 0);
    }

    /** Promise 32: "NUMBERS (bits 0 .. 9) of LINKS it could have" */
    private static void whatItIsByNumbers() {
        VolumeInFivePasses x = Told.made("u0;u9;k91;e00a9;");
        x.row(14);
        Due.is("all but one", x.whatIs(9, 1), 1023 - 2);
        Due.is("all but none, of inode 0", x.whatIs(0, 1), 1023);
        x.links(9, 1, 0);
        Due.is("all but none, of inode 0 alone", x.whatIs(0, 1), 1022);
        Due.is("links are as they were", x.inode(9, 1), 1);
        x.clear();
        x.row(16);
        Due.is("no number", x.whatIs(9, 1), 0);
        x.marks(1, 9);
        Due.is("the one number", x.whatIs(9, 1), 2);
        x.links(9, 9, 0);
        x.clear();
        x.row(14);
        x.row(16);
        Due.is("behind a 14", x.whatIs(9, 1), 1023 - 2);
    }

    /** Promises 33 and 35: none, one, thirty-two. */
    private static void rowAndClear() {
        VolumeInFivePasses x = new VolumeInFivePasses();
        Due.is("clear, none", x.clear(), 0);
        Due.is("the least number", x.row(0), 1);
        Due.is("clear, one", x.clear(), 1);
        Due.is("the greatest number", x.row(99), 1);
        for (int i = 2; i <= 32; i++) {
            Due.is("number " + i, x.row(i), i);
        }
        Due.is("one too many", x.row(0), -6);
        Due.is("in the row", x.count(6), 32);
        Due.is("clear, all", x.clear(), 32);
        Due.is("in the row then", x.count(6), 0);
        Due.is("the first again", x.row(5), 1);
    }

    /** Promise 34: "the first that is not so": the first INODE, the last, "(no such INODE, too)" */
    private static void judgedInodes() {
        for (int wrong = 0; wrong <= 10; wrong++) {
            VolumeInFivePasses x = Told.made("e00a1;e01b1;k11;k32;");
            int[] links = {0, 2, 0, 1, 0, 0, 0, 0, 0, 0};
            for (int i = 0; i < 10; i++) {
                x.row(i == wrong ? links[i] + 1 : links[i]);
            }
            Due.is("wrong at " + wrong, x.judge(), wrong < 10 ? wrong : -9);
            Due.is("the row has none then", x.count(6), 0);
        }
        VolumeInFivePasses x = new VolumeInFivePasses();
        for (int i = 0; i < 11; i++) {
            x.row(0);
        }
        Due.is("no such inode", x.judge(), 10);
        for (int i = 0; i < 32; i++) {
            x.row(0);
        }
        Due.is("no such inode, a full row", x.judge(), 10);
        Due.is("the full row has none then", x.count(6), 0);
    }

    /** Promise 34: no number at all; nine LINKS; LINKS behind a CHECK, not now. */
    private static void judgedRows() {
        VolumeInFivePasses x = Told.made("i0d90;");
        Due.is("no number", x.judge(), -9);
        x.row(9);
        Due.is("as they are now", x.judge(), 0);
        x.row(0);
        Due.is("as they are then", x.judge(), -9);
        Due.is("in mind alone", x.inode(0, 1), 9);
        x.refuses(14);
        x.row(9);
        Due.is("as they stay", x.judge(), -9);
        VolumeInFivePasses nine = Told.made("k05;k25;k11;e00z2;");
        for (int i = 0; i < 10; i++) {
            nine.enters(i < 5 ? 0 : 2, i < 5 ? i + 1 : i - 5, i, 1);
        }
        nine.row(0);
        nine.row(9);
        nine.row(1);
        Due.is("ten entries are nine links", nine.judge(), -9);
        nine.row(0);
        nine.row(10);
        Due.is("not ten", nine.judge(), 1);
    }

    /**
     * Promise 36 on a new object. By the seed 0 the draws tell "7 NONE; 9 DIR; 7 NONE; pointer 0 of 9 to 7; 3 NONE;
     * slot 0 of 1: s 8", then "slot 3 of 5: q 5; pointer 0 of 2 to 6; slot 4 of 9: g 2; 1 LOG; pointer 0 of 1 to 10;
     * slot 1 of 1: w 6": 6 and 9 questions, 2 and 2 inodes. The least int draws the same, as its sign counts nowhere.
     */
    private static void lotsByHand() {
        int[][] due = {
            {0, 6, 2, 15, 4}, {Integer.MIN_VALUE, 6, 2, 15, 4}, {-1, 6, 1, 17, 4}, {Integer.MAX_VALUE, 6, 1, 17, 4},
            {1, 7, 1, 16, 3},
        };
        VolumeInFivePasses x = new VolumeInFivePasses();
        for (int[] row : due) {
            Due.is("one volume of seed " + row[0] + ", questions", x.lots(1, row[0], 0), row[1]);
            Due.is("one volume of seed " + row[0] + ", inodes", x.lots(1, row[0], 1), row[2]);
            Due.is("two volumes of seed " + row[0] + ", questions", x.lots(2, row[0], 0), row[3]);
            Due.is("two volumes of seed " + row[0] + ", inodes", x.lots(2, row[0], 1), row[4]);
        }
        String[][] told = {
            {"k70;k92;k70;p9007;k30;e10s8;", "e53q5;p2006;e94g2;k14;p1010;e11w6;"},
            {"e62x8;k01;e25p7;e45k3;p8007;p0211;", "p0008;e44p2;e00p3;k81;p2100;k92;"},
            {"p9014;e71f0;p3009;e65i0;e50p0;p7104;", "k52;p4123;e03b3;p7120;p4023;p5122;"},
        };
        int[] seeds = {0, -1, 1};
        for (int i = 0; i < seeds.length; i++) {
            int questions = 0;
            int inodes = 0;
            for (String text : told[i]) {
                VolumeInFivePasses y = Told.made(text);
                questions += y.check();
                inodes += Integer.bitCount(y.count(0));
            }
            Due.is("the same by calls, questions of seed " + seeds[i], x.lots(2, seeds[i], 0), questions);
            Due.is("the same by calls, inodes of seed " + seeds[i], x.lots(2, seeds[i], 1), inodes);
        }
    }

    /**
     * Promise 36: "a DRAW below 26", so that numbers 24 and 25 come. By the seed -35489 the pointers drawn are 1 of 1
     * to 25, 2 of 5 to 14, 1 of 5 to 23, 2 of 2 to 25, 1 of 8 to 24, 1 of 9 to 18; by -6398 0 of 7 to 9, 0 of 1 to
     * 24, 1 of 7 to 15, 0 of 6 to 19, 0 of 0 to 25, and inode 3 is a DIR.
     */
    private static void lotsOfNumbersAbove() {
        VolumeInFivePasses x = Told.made("r14;r15;r16;k05;k11;k21;k51;k81;k91;e00a1;e01b2;e02c5;e03d8;e04e9;");
        Due.is("nothing else is asked", x.sound(), 1);
        Due.is("two to 25, one to 24", x.lots(1, -35489, 0), 3);
        Due.is("no more inodes", x.lots(1, -35489, 1), 6);
        Due.is("one to 24, one to 25, three of none, one attached", x.lots(1, -6398, 0), 6);
        Due.is("one more inode", x.lots(1, -6398, 1), 7);
    }

    /** Promise 36: n from 1 to 20; "a seed z", any int; the seed goes on from volume to volume. */
    private static void lotsOfSeeds() {
        int[] ends = {408928405, 702900281, -1738555243, -1444583367, 1420083438};
        int[] seeds = {0, -1, Integer.MIN_VALUE, Integer.MAX_VALUE, 1};
        VolumeInFivePasses x = Told.made("i1d10;i2f10;e00a1;e10b2;p0000;p1001;p2002;p2103;");
        for (int i = 0; i < seeds.length; i++) {
            for (int what = 0; what <= 1; what++) {
                int whole = x.lots(20, seeds[i], what);
                Due.is("two, and eighteen from where it ends", x.lots(2, seeds[i], what) + x.lots(18, ends[i], what), whole);
                Due.is("the same again", x.lots(20, seeds[i], what), whole);
            }
        }
    }

    /** Promise 36: "each from now"; reasons refused are refused, nothing is changed. */
    private static void lotsChangeNothing() {
        VolumeInFivePasses x = Told.made("i1d10;i2f10;e00a1;e10b2;p0000;r14;r16;");
        x.row(7);
        x.letter('c');
        x.image();
        String before = Told.volume(x);
        x.lots(20, 77, 0);
        Due.is("as it was", Told.volume(x), before);
        Due.is("the row, letters", x.count(6) * 10 + x.count(7), 11);
        Due.is("the reasons", x.count(5), 1 << 14 | 1 << 16);
        VolumeInFivePasses y = new VolumeInFivePasses();
        y.refuses(16);
        Due.is("without 16", y.lots(1, 0, 0), 4);
    }

    /** Inode 0 is full; file 1 will be lost, to whose block log 5 is, too. */
    private static VolumeInFivePasses lostAndLog() {
        return Told.made("k11;p1005;k23;k33;k43;k54;p5005;e00a2;e01b3;e02c4;e03d5;");
    }

    /** "A REASON that is REFUSED (..) is asked no QUESTION, nothing is mended for it": in mind likewise. */
    private static void refusedInMind() {
        VolumeInFivePasses x = lostAndLog();
        int[] numbers = {0, 2, 3, 4, 5, -9};
        Due.is("none refused: reasons", x.reasons(), 1 << 4 | 1 << 13 | 1 << 14 | 1 << 16);
        Due.is("none refused: a block is lost", x.loses(1), 1);
        Due.is("none refused: the pointer", x.pointerThen(5, 0), -9);
        Due.is("none refused: blocks of the log", x.then(5, 5), 0);
        for (int i = 0; i < numbers.length; i++) {
            Due.is("none refused: by numbers, " + i, x.largest(i), numbers[i]);
        }
        x.refuses(4);
        int[] most = {0, 5, 2, 3, 4, -9};
        Due.is("4 refused: reasons", x.reasons(), 1 << 13 | 1 << 14 | 1 << 15 | 1 << 16);
        Due.is("4 refused: no block is lost", x.loses(1), 0);
        Due.is("4 refused: the pointer", x.pointerThen(5, 0), 5);
        Due.is("4 refused: blocks of the log", x.then(5, 5), 1);
        for (int i = 0; i < most.length; i++) {
            Due.is("4 refused: most first, " + i, x.largest(i), most[i]);
        }
        x.refuses(14);
        Due.is("14 refused: reasons", x.reasons(), 1 << 13 | 1 << 15 | 1 << 16);
        Due.is("14 refused: links", x.then(5, 1), 0);
        x.refuses(14);
        Due.is("14 refused no more: links", x.then(5, 1), 1);
        VolumeInFivePasses parent = Told.made("r12;i1d07;e00a1;");
        Due.is("12 refused: parent", parent.then(1, 2), 7);
        parent.refuses(12);
        Due.is("12 refused no more: parent", parent.then(1, 2), 0);
    }

    /** Promise 32: "REASONS of the QUESTIONS of a CHECK", of which those refused are none. */
    private static void refusedInRows() {
        VolumeInFivePasses x = lostAndLog();
        int holding = 1 << 1 | 1 << 2 | 1 << 4 | 1 << 5;
        x.row(4);
        x.row(13);
        Due.is("none refused: kinds", x.whatIs(5, 0), holding);
        Due.is("none refused: numbers", x.whatIs(5, 1), 1023);
        x.refuses(4);
        Due.is("4 refused: kinds", x.whatIs(5, 0), 0);
        Due.is("4 refused: numbers", x.whatIs(5, 1), 0);
        x.clear();
        x.row(13);
        x.row(14);
        Due.is("4 refused, not told: kinds", x.whatIs(5, 0), holding);
        Due.is("4 refused, not told: numbers", x.whatIs(5, 1), 1023);
        x.refuses(14);
        Due.is("14 refused: numbers", x.whatIs(5, 1), 0);
    }

    /** Promises 37 and 38: "all that there is, but it, the ROW, letters, REFUSALS" */
    private static void imageOfAll() {
        VolumeInFivePasses x = Told.made("i0h98;i9f76;p0023;p9298;e00a9;e95z0;b0099;b2342;m00;m23;u0;u9;r04;r16;");
        String before = Told.volume(x);
        Due.is("taken", x.image(), 2);
        Told.make(x, "i0n00;i9n00;i5d12;p0099;p9299;p5111;x00;x95;e52c3;b0000;b2300;b0501;m00;m23;m05;u0;u9;u5;r04;r16;r12;");
        x.row(1);
        x.letter('u');
        x.inode(10, 0);
        Due.is("changed", x.count(0), 32);
        Due.is("on", x.on(), 2);
        Due.is("all of it", Told.volume(x), before);
        Due.is("the reasons", x.count(5), 1 << 4 | 1 << 16);
        Due.is("but the row", x.count(6), 1);
        Due.is("but letters", x.count(7), 1);
        Due.is("but refusals", x.count(11), 1);
    }

    /** Promises 37 and 38: none, one, a later one; ON again and again. */
    private static void imageAgain() {
        VolumeInFivePasses x = new VolumeInFivePasses();
        Due.is("there is none", x.on(), -3);
        Due.is("one inode", x.image(), 1);
        x.kind(9, 1);
        Due.is("on", x.on(), 1);
        x.kind(8, 1);
        x.kind(7, 1);
        Due.is("on again", x.on(), 1);
        Due.is("on again: inodes", x.count(0), 1);
        for (int i = 0; i < 10; i++) {
            x.kind(i, 5);
        }
        Due.is("ten inodes", x.image(), 10);
        for (int i = 0; i < 10; i++) {
            x.kind(i, 0);
        }
        Due.is("on from the later", x.on(), 10);
        for (int i = 0; i < 10; i++) {
            x.kind(i, 0);
        }
        Due.is("no inode", x.image(), 0);
        x.kind(0, 2);
        Due.is("on from no inode", x.on(), 0);
        Due.is("on from no inode: inodes", x.count(0), 0);
    }

    /** Promise 39: bits of none and of all; 11 .. 16; "-9 for another what" */
    private static void bitsOfCount() {
        VolumeInFivePasses x = new VolumeInFivePasses();
        x.kind(0, 0);
        for (int what = 0; what <= 7; what++) {
            Due.is("none, count(" + what + ")", x.count(what), 0);
        }
        for (int i = 0; i < 10; i++) {
            x.kind(i, i % 2 == 0 ? 5 : 2);
            x.marks(1, i);
        }
        for (int b = 0; b < 24; b++) {
            x.points(9 - b / 3, b % 3, b);
            x.marks(0, b);
        }
        x.points(0, 0, 24);
        for (int reason : new int[] {4, 12, 14, 15, 16}) {
            x.refuses(reason);
        }
        for (int i = 0; i < 32; i++) {
            x.row(i);
        }
        for (int i = 0; i < 96; i++) {
            x.letter(i);
        }
        int[] due = {1023, 1023, (1 << 24) - 1, (1 << 24) - 1, 1023, 0x1d010, 32, 96};
        for (int what = 0; what <= 7; what++) {
            Due.is("all, count(" + what + ")", x.count(what), due[what]);
        }
        x.kind(3, 3);
        Due.is("a link is no directory", x.count(1), 1023 - 8);
        x.points(9, 0, 98);
        Due.is("block 0 no more", x.count(2), (1 << 24) - 2);
        for (int what : new int[] {-1, 8, 9, 10, 17, 100, Integer.MIN_VALUE, Integer.MAX_VALUE}) {
            Due.is("another, count(" + what + ")", x.count(what), -9);
        }
        for (int what = 11; what <= 16; what++) {
            Due.is("no refusals, count(" + what + ")", x.count(what), 0);
        }
    }
}

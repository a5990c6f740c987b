/** Promises 1 to 39, each by answers worked out from the document by hand. */
public final class PromiseTests {
    /** Inode 0 has entry a to directory 1, which has entry b to file 2; nothing to ask. */
    private static final String TREE =
        "i1d10;i2f10;e00a1;e10b2;p0000;p1001;p2002;p2103;m00;m01;m02;m03;u0;u1;u2;";

    private PromiseTests() {
    }

    public static void main(String[] args) {
        newObject();
        letter();
        volumeFaults();
        volumeStatements();
        inode();
        pointerAndPoints();
        slotEntersEmpties();
        block();
        kind();
        links();
        marks();
        writes();
        refuses();
        check();
        questions();
        then();
        slotThenAndPointerThen();
        largest();
        second();
        loses();
        mend();
        worst();
        shared();
        damage();
        mean();
        whatIs();
        rowJudgeClear();
        lots();
        imageAndOn();
        count();
        Due.end("PromiseTests");
    }

    // ---- promise 1 ----

    private static void newObject() {
        VolumeInFivePasses x = new VolumeInFivePasses();
        for (int i = 0; i < 10; i++) {
            Due.is("new kind " + i, x.inode(i, 0), i == 0 ? 2 : 0);
            Due.is("new links " + i, x.inode(i, 1), 0);
            Due.is("new parent " + i, x.inode(i, 2), 0);
            Due.is("new inode mark " + i, x.inode(i, 3), 0);
            for (int p = 0; p < 3; p++) {
                Due.is("new pointer", x.pointer(i, p), -9);
            }
            for (int s = 0; s < 6; s++) {
                Due.is("new slot", x.slot(i, s), -9);
            }
        }
        for (int b = 0; b < 24; b++) {
            Due.is("new byte", x.block(b, 0), 0);
            Due.is("new block mark", x.block(b, 1), 0);
        }
        int[] due = {1, 1, 0, 0, 0, 0, 0, 0, -9, -9, -9, 0, 0, 0, 0, 0, 0, -9};
        for (int what = 0; what < due.length; what++) {
            Due.is("new count " + what, x.count(what), due[what]);
        }
        Due.is("new questions", Told.asked(x), "16,0,0");
    }

    // ---- promises 2, 3 ----

    private static void letter() {
        VolumeInFivePasses x = new VolumeInFivePasses();
        Due.is("letter(0)", x.letter(0), 1);
        Due.is("letter(255)", x.letter(255), 2);
        Due.refusal(x, "letter(256)", () -> x.letter(256), -6);
        Due.refusal(x, "letter(-1)", () -> x.letter(-1), -4);
        Due.refusal(x, "letter(least int)", () -> x.letter(Integer.MIN_VALUE), -4);
        for (int i = 3; i <= 96; i++) {
            Due.is("letter " + i, x.letter('c'), i);
        }
        Due.refusal(x, "letter 97", () -> x.letter('c'), -6);
        Due.refusal(x, "letter(-1), full", () -> x.letter(-1), -4);
        Due.is("letters", x.count(7), 96);
    }

    private static void volumeFaults() {
        String[] texts = {
            "", "-1000", ";", "-1000", "q", "-1000", "I1d10;", "-1000", "c", "-1001", "cc", "-1001", "c;;", "-1002",
            "c;c", "-1003", "i", "-1001", "ix", "-1001", "i1z10;", "-1002", "i1D10;", "-1002", "i1da0;", "-1003",
            "i1d1;", "-1004", "i1d1", "-1004", "i1d10", "-1005", "i1d100;", "-1005", "p12", "-1003", "p1212", "-1005",
            "p129:;", "-1004", "p3012;c;p30/2;", "-1011", "e05A1;", "-1003", "e05{1;", "-1003", "e05`1;", "-1003",
            "e0513;", "-1003", "e05ab;", "-1004", "x051;", "-1003", "b231;", "-1004", "m5;", "-1002", "u10;", "-1002",
            "u;", "-1001", "p1399;", "-2000", "p1999;", "-2000", "c;p1399;", "-2002", "p1399;z", "-1006",
            "p1399;m24;", "-2000", "m23;m24;p1399;", "-2004", "e06a1;", "-2000", "e09a1;", "-2000", "x06;", "-2000",
            "x99;", "-2000", "b2400;", "-2000", "b9999;", "-2000", "m24;", "-2000", "m99;", "-2000",
        };
        for (int i = 0; i < texts.length; i += 2) {
            VolumeInFivePasses x = new VolumeInFivePasses();
            Due.is("volume of " + texts[i], Told.tell(x, texts[i]), Integer.parseInt(texts[i + 1]));
            Due.is("letters behind " + texts[i], x.count(7), 0);
            int refusals = 0;
            for (int r = 11; r <= 16; r++) {
                refusals += x.count(r);
            }
            Due.is("refusals behind " + texts[i], refusals, 0);
        }
        VolumeInFivePasses x = new VolumeInFivePasses();
        Due.is("fault behind statements", Told.tell(x, "i1f11;u1;m01;c;e06a1;"), -2015);
        Due.is("nothing has come", x.count(0) + x.count(3) + x.count(4), 1);
        x.letter(200);
        Due.is("letter 200", x.volume(), -1000);
        Due.is("again", Told.tell(x, "c;"), 1);
        StringBuilder most = new StringBuilder();
        for (int i = 0; i < 48; i++) {
            most.append("c;");
        }
        Due.is("48 statements", Told.tell(x, most.toString()), 48);
    }

    private static void volumeStatements() {
        VolumeInFivePasses x = new VolumeInFivePasses();
        Due.is("statements", Told.tell(x, "i1n12;i2f34;i3d56;i4l78;i5g90;i6h09;p0298;p9023;e05z9;b2399;m23;u9;"), 12);
        int[] kinds = {2, 0, 1, 2, 3, 4, 5, 0, 0, 0};
        int[] linkCounts = {0, 1, 3, 5, 7, 9, 0, 0, 0, 0};
        int[] parents = {0, 2, 4, 6, 8, 0, 9, 0, 0, 0};
        for (int i = 0; i < 10; i++) {
            Due.is("told kind", x.inode(i, 0), kinds[i]);
            Due.is("told links", x.inode(i, 1), linkCounts[i]);
            Due.is("told parent", x.inode(i, 2), parents[i]);
        }
        Due.is("told pointer", x.pointer(0, 2), 98);
        Due.is("told pointer", x.pointer(9, 0), 23);
        Due.is("told entry", x.slot(0, 5), 26 * 9 + 25);
        Due.is("told byte", x.block(23, 0), 99);
        Due.is("told marks", x.count(3), 1 << 23);
        Due.is("told inode marks", x.count(4), 1 << 9);
        Due.is("more statements", Told.tell(x, "p0299;x05;x04;m23;u9;m00;u0;u0;u0;"), 9);
        Due.is("none again", x.pointer(0, 2), -9);
        Due.is("empty again", x.slot(0, 5), -9);
        Due.is("told again", x.count(3), 1);
        Due.is("thrice", x.count(4), 1);
        VolumeInFivePasses early = Told.of("c;i1f00;");
        Due.is("checked before", early.slot(0, 0), -9);
        VolumeInFivePasses late = Told.of("i1f00;c;e01c2;");
        Due.is("checked behind", late.slot(0, 0), 26);
        Due.is("told behind the check", late.slot(0, 1), 54);
        VolumeInFivePasses twice = Told.quiet("i1f50;c;");
        Due.is("a refused reason in a told check", twice.inode(1, 1), 5);
        VolumeInFivePasses full = new VolumeInFivePasses();
        Due.is("sixteen of six letters", Told.tell(full, "i1f11;i2f11;i3f11;i4f11;i5f11;i6f11;i7f11;i8f11;"
            + "i9f11;b0001;b0102;b0203;b0304;b0405;b0506;b0607;"), 16);
        Due.is("the last of them", full.block(6, 0), 7);
    }

    // ---- promises 4 to 14 ----

    private static void inode() {
        VolumeInFivePasses x = Told.of("i1f93;i2d00;i3l00;i4g00;i5h00;e15a0;e10a0;e12b9;u1;");
        int[] holds = {1, 3, 1, 0, 2, 1, 0};
        int[] lists = {4, 0, 4, 0, 0, 6, 0};
        int[] kinds = {2, 1, 2, 3, 4, 5, 0};
        for (int i = 0; i < 7; i++) {
            Due.is("inode kind", x.inode(i, 0), kinds[i]);
            Due.is("inode holds", x.inode(i, 4), holds[i]);
            Due.is("inode lists", x.inode(i, 5), lists[i]);
        }
        Due.is("inode(1, 1)", x.inode(1, 1), 9);
        Due.is("inode(1, 2)", x.inode(1, 2), 3);
        Due.is("inode(1, 3)", x.inode(1, 3), 1);
        Due.is("inode(2, 3)", x.inode(2, 3), 0);
        Due.is("inode(1, 6)", x.inode(1, 6), 3);
        Due.is("inode(0, 6)", x.inode(0, 6), 0);
        Due.refusal(x, "inode(-1, 0)", () -> x.inode(-1, 0), -1);
        Due.refusal(x, "inode(10, 9)", () -> x.inode(10, 9), -1);
        Due.refusal(x, "inode(9, 7)", () -> x.inode(9, 7), -2);
        Due.refusal(x, "inode(0, -1)", () -> x.inode(0, -1), -2);
    }

    private static void pointerAndPoints() {
        VolumeInFivePasses x = new VolumeInFivePasses();
        Due.is("points(9, 2, 98)", x.points(9, 2, 98), 1);
        Due.is("points(0, 0, 0)", x.points(0, 0, 0), 1);
        Due.is("pointer(9, 2)", x.pointer(9, 2), 98);
        Due.is("pointer(0, 0)", x.pointer(0, 0), 0);
        Due.is("pointer(0, 1)", x.pointer(0, 1), -9);
        Due.is("points(9, 2, 99)", x.points(9, 2, 99), 1);
        Due.is("pointer(9, 2), none", x.pointer(9, 2), -9);
        Due.refusal(x, "pointer(-1, 0)", () -> x.pointer(-1, 0), -1);
        Due.refusal(x, "pointer(10, 0)", () -> x.pointer(10, 0), -1);
        Due.refusal(x, "pointer(0, -1)", () -> x.pointer(0, -1), -1);
        Due.refusal(x, "pointer(9, 3)", () -> x.pointer(9, 3), -1);
        Due.refusal(x, "points(10, 0, -1)", () -> x.points(10, 0, -1), -1);
        Due.refusal(x, "points(-1, 0, 5)", () -> x.points(-1, 0, 5), -1);
        Due.refusal(x, "points(0, 3, 100)", () -> x.points(0, 3, 100), -1);
        Due.refusal(x, "points(0, -1, 1)", () -> x.points(0, -1, 1), -1);
        Due.refusal(x, "points(0, 0, -1)", () -> x.points(0, 0, -1), -4);
        Due.refusal(x, "points(0, 0, 100)", () -> x.points(0, 0, 100), -6);
        Due.is("pointer(0, 0) behind refusals", x.pointer(0, 0), 0);
    }

    private static void slotEntersEmpties() {
        VolumeInFivePasses x = new VolumeInFivePasses();
        Due.is("enters(0, 0, 0, 0)", x.enters(0, 0, 0, 0), 1);
        Due.is("enters(9, 5, 25, 9)", x.enters(9, 5, 25, 9), 1);
        Due.is("slot(0, 0)", x.slot(0, 0), 0);
        Due.is("slot(9, 5)", x.slot(9, 5), 259);
        Due.is("slot(9, 4)", x.slot(9, 4), -9);
        Due.is("enters again", x.enters(9, 5, 3, 2), 1);
        Due.is("slot again", x.slot(9, 5), 55);
        Due.is("empties(9, 5)", x.empties(9, 5), 1);
        Due.is("empties(9, 5) again", x.empties(9, 5), 0);
        Due.is("empties(0, 0)", x.empties(0, 0), 1);
        Due.is("slot(0, 0), empty", x.slot(0, 0), -9);
        Due.refusal(x, "slot(10, 0)", () -> x.slot(10, 0), -1);
        Due.refusal(x, "slot(-1, 0)", () -> x.slot(-1, 0), -1);
        Due.refusal(x, "slot(0, 6)", () -> x.slot(0, 6), -1);
        Due.refusal(x, "slot(0, -1)", () -> x.slot(0, -1), -1);
        Due.refusal(x, "enters(10, 0, 26, 0)", () -> x.enters(10, 0, 26, 0), -1);
        Due.refusal(x, "enters(-1, 0, 0, 0)", () -> x.enters(-1, 0, 0, 0), -1);
        Due.refusal(x, "enters(0, 6, 0, 0)", () -> x.enters(0, 6, 0, 0), -1);
        Due.refusal(x, "enters(0, -1, 0, 0)", () -> x.enters(0, -1, 0, 0), -1);
        Due.refusal(x, "enters(0, 0, 26, 10)", () -> x.enters(0, 0, 26, 10), -1);
        Due.refusal(x, "enters(0, 0, 0, -1)", () -> x.enters(0, 0, 0, -1), -1);
        Due.refusal(x, "enters(0, 0, 26, 0)", () -> x.enters(0, 0, 26, 0), -2);
        Due.refusal(x, "enters(0, 0, -1, 0)", () -> x.enters(0, 0, -1, 0), -2);
        Due.refusal(x, "empties(10, 0)", () -> x.empties(10, 0), -1);
        Due.refusal(x, "empties(-1, 0)", () -> x.empties(-1, 0), -1);
        Due.refusal(x, "empties(0, 6)", () -> x.empties(0, 6), -1);
        Due.refusal(x, "empties(0, -1)", () -> x.empties(0, -1), -1);
        Due.is("slot(0, 0) behind refusals", x.slot(0, 0), -9);
    }

    private static void block() {
        VolumeInFivePasses x = Told.of("b2345;m23;p0023;p9223;p3124;");
        Due.is("block(23, 0)", x.block(23, 0), 45);
        Due.is("block(23, 1)", x.block(23, 1), 1);
        Due.is("block(23, 2)", x.block(23, 2), 2);
        Due.is("block(0, 0)", x.block(0, 0), 0);
        Due.is("block(0, 1)", x.block(0, 1), 0);
        Due.is("block(0, 2)", x.block(0, 2), 0);
        Due.refusal(x, "block(24, 3)", () -> x.block(24, 3), -1);
        Due.refusal(x, "block(-1, 0)", () -> x.block(-1, 0), -1);
        Due.refusal(x, "block(0, 3)", () -> x.block(0, 3), -2);
        Due.refusal(x, "block(0, -1)", () -> x.block(0, -1), -2);
    }

    private static void kind() {
        VolumeInFivePasses x = Told.of(TREE);
        Due.is("kind(2, 3)", x.kind(2, 3), 1);
        Due.is("kind(2, 5)", x.kind(2, 5), 3);
        Due.is("kind(2, 0)", x.kind(2, 0), 5);
        Due.is("kind(0, 0)", x.kind(0, 0), 2);
        Due.is("kind now", x.inode(0, 0), 0);
        Due.is("pointer as it was", x.pointer(2, 1), 3);
        Due.is("links as they were", x.inode(2, 1), 1);
        Due.is("entry as it was", x.slot(0, 0), 26);
        Due.refusal(x, "kind(10, 6)", () -> x.kind(10, 6), -1);
        Due.refusal(x, "kind(-1, 0)", () -> x.kind(-1, 0), -1);
        Due.refusal(x, "kind(0, 6)", () -> x.kind(0, 6), -2);
        Due.refusal(x, "kind(0, -1)", () -> x.kind(0, -1), -2);
    }

    private static void links() {
        VolumeInFivePasses x = new VolumeInFivePasses();
        Due.is("links(3, 9, 8)", x.links(3, 9, 8), 0);
        Due.is("links(3, 0, 9)", x.links(3, 0, 9), 98);
        Due.is("links(3, 4, 0)", x.links(3, 4, 0), 9);
        Due.is("links now", x.inode(3, 1), 4);
        Due.is("parent now", x.inode(3, 2), 0);
        Due.refusal(x, "links(10, -1, 0)", () -> x.links(10, -1, 0), -1);
        Due.refusal(x, "links(-1, 0, 0)", () -> x.links(-1, 0, 0), -1);
        Due.refusal(x, "links(0, -1, 10)", () -> x.links(0, -1, 10), -1);
        Due.refusal(x, "links(0, 10, -1)", () -> x.links(0, 10, -1), -1);
        Due.refusal(x, "links(0, -1, 0)", () -> x.links(0, -1, 0), -4);
        Due.refusal(x, "links(0, 10, 0)", () -> x.links(0, 10, 0), -6);
        Due.is("links behind refusals", x.links(0, 0, 0), 0);
    }

    private static void marks() {
        VolumeInFivePasses x = new VolumeInFivePasses();
        Due.is("marks(0, 23)", x.marks(0, 23), 1);
        Due.is("marks(0, 0)", x.marks(0, 0), 1);
        Due.is("marks(1, 9)", x.marks(1, 9), 1);
        Due.is("marks(1, 0)", x.marks(1, 0), 1);
        Due.is("marked blocks", x.count(3), 1 << 23 | 1);
        Due.is("marked inodes", x.count(4), 1 << 9 | 1);
        Due.is("marks(0, 23) again", x.marks(0, 23), 0);
        Due.is("marks(1, 9) again", x.marks(1, 9), 0);
        Due.is("marked blocks", x.count(3), 1);
        Due.is("marked inodes", x.count(4), 1);
        Due.refusal(x, "marks(2, 24)", () -> x.marks(2, 24), -2);
        Due.refusal(x, "marks(-1, 0)", () -> x.marks(-1, 0), -2);
        Due.refusal(x, "marks(0, 24)", () -> x.marks(0, 24), -1);
        Due.refusal(x, "marks(0, -1)", () -> x.marks(0, -1), -1);
        Due.refusal(x, "marks(1, 10)", () -> x.marks(1, 10), -1);
        Due.refusal(x, "marks(1, -1)", () -> x.marks(1, -1), -1);
    }

    private static void writes() {
        VolumeInFivePasses x = new VolumeInFivePasses();
        Due.is("writes(23, 99)", x.writes(23, 99), 0);
        Due.is("writes(23, 0)", x.writes(23, 0), 99);
        Due.is("writes(0, 7)", x.writes(0, 7), 0);
        Due.is("byte", x.block(0, 0), 7);
        Due.refusal(x, "writes(24, -1)", () -> x.writes(24, -1), -1);
        Due.refusal(x, "writes(-1, 0)", () -> x.writes(-1, 0), -1);
        Due.refusal(x, "writes(0, -1)", () -> x.writes(0, -1), -4);
        Due.refusal(x, "writes(0, 100)", () -> x.writes(0, 100), -6);
        Due.is("byte behind refusals", x.block(0, 0), 7);
    }

    // ---- promise 15 ----

    private static void refuses() {
        VolumeInFivePasses x = new VolumeInFivePasses();
        for (int reason = -2; reason < 40; reason++) {
            int asked = reason;
            if (reason == 4 || reason == 12 || reason >= 14 && reason <= 16) {
                Due.is("refuses(" + reason + ")", x.refuses(reason), 1);
                Due.is("refuses(" + reason + ") again", x.refuses(reason), 0);
                Due.is("refuses(" + reason + ") thrice", x.refuses(reason), 1);
            } else {
                Due.refusal(x, "refuses(" + reason + ")", () -> x.refuses(asked), -2);
            }
        }
        Due.refusal(x, "refuses(36)", () -> x.refuses(36), -2);
        Due.refusal(x, "refuses(least int)", () -> x.refuses(Integer.MIN_VALUE), -2);
        Due.is("refused reasons", x.count(5), 1 << 4 | 1 << 12 | 1 << 14 | 1 << 15 | 1 << 16);
        Told.tell(x, "i1d35;e00a1;p0005;p1005;m07;u5;");
        Due.is("all refused", Told.asked(x), "");
        Due.is("all refused, checked", x.check(), 0);
        Due.is("nothing mended", x.pointer(1, 0) * 1000 + x.inode(1, 1) * 10 + x.inode(1, 2), 5035);
        Due.is("nothing mended in the maps", x.count(3) * 100 + x.count(4), (1 << 7) * 100 + (1 << 5));
        x.refuses(4);
        Due.is("4 no more refused", Told.asked(x), "4,1,0");
        x.refuses(12);
        x.refuses(14);
        x.refuses(15);
        x.refuses(16);
        Due.is("none refused", Told.asked(x),
            "4,1,0 12,1,5 14,1,3 15,0,0 15,5,0 15,7,0 16,0,0 16,1,0 16,5,0");
    }

    // ---- promise 16: the five passes ----

    private static void check() {
        sound();
        passOne();
        clones();
        passTwo();
        passThree();
        lost();
        parents();
        passFour();
        passFive();
    }

    private static void sound() {
        VolumeInFivePasses x = Told.of(TREE);
        Due.is("tree", Told.asked(x), "");
        Due.is("tree is sound", x.sound(), 1);
        Due.is("tree, checked", x.check(), 0);
        VolumeInFivePasses y = new VolumeInFivePasses();
        Due.is("new is not sound", y.sound(), 0);
        Due.is("new, checked", y.check(), 1);
        Due.is("new, checked: sound", y.sound(), 1);
        Due.is("new, checked again", y.check(), 0);
        Due.is("new, checked: marked", y.count(4), 1);
    }

    private static void passOne() {
        for (int kind = 0; kind < 6; kind++) {
            VolumeInFivePasses x = Told.quiet("p0005;e00a3;");
            x.kind(3, 3);
            x.links(0, 3, 4);
            x.kind(0, kind);
            boolean isDirectory = kind == 2 || kind == 5;
            Due.is("inode 0 of kind " + kind, Told.asked(x), isDirectory ? "12,0,4" : "1,0,0 13,3,0");
            x.check();
            Due.is("inode 0, its kind", x.inode(0, 0), kind == 5 ? 5 : 2);
            Due.is("inode 0, its pointer", x.pointer(0, 0), isDirectory ? 5 : -9);
            Due.is("inode 0, its slot", x.slot(0, 0), 26 * 3);
            Due.is("inode 0, its links", x.inode(0, 1), isDirectory ? 3 : 0);
            Due.is("inode 0, its parent", x.inode(0, 2), 0);
        }
        Due.is("more pointers than it holds",
            Told.asked(Told.quiet("i1f00;i2l00;i3g00;i4h00;e00a1;e01b2;e02c3;e03d4;p0100;p0201;p1202;p2003;p3104;p3205;p4106;p9098;")),
            "2,0,1 2,0,2 2,2,0 2,3,2 2,4,1 2,9,0");
        Due.is("no such block", Told.asked(Told.quiet("i1f00;e00a1;p0024;p1098;p1123;p1224;")), "3,0,0 3,1,0 3,1,2");
        VolumeInFivePasses x = Told.quiet("i1f00;e00a1;p0024;p0124;p1123;");
        x.check();
        Due.is("pointers mended", x.pointer(0, 0) + x.pointer(0, 1), -18);
        Due.is("pointer that stays", x.pointer(1, 1), 23);
    }

    private static void clones() {
        VolumeInFivePasses x = Told.quiet("i1f00;e00a1;p0005;p1005;p1105;p1200;b0577;");
        Due.is("clones", Told.asked(x), "4,1,0 4,1,1");
        x.check();
        Due.is("first clone", x.pointer(1, 0), 1);
        Due.is("second clone", x.pointer(1, 1), 2);
        Due.is("bytes of clones", x.block(1, 0) * 100 + x.block(2, 0), 7777);
        Due.is("byte of another", x.block(0, 0), 0);
        VolumeInFivePasses log = Told.quiet("i1g00;e00a1;p0005;p1005;p1106;b0577;");
        Due.is("a log", Told.asked(log), "4,1,0");
        log.check();
        Due.is("a log does not clone", log.pointer(1, 0), -9);
        Due.is("no byte for a log", log.block(0, 0), 0);
        VolumeInFivePasses later = Told.quiet("i1f00;i2f00;e00a1;e01b2;p0005;p1005;p2000;p9201;p9124;");
        Due.is("later pointers", Told.asked(later), "4,1,0 2,9,1 2,9,2");
        Due.is("later pointers take blocks", later.pointerThen(1, 0), 2);
        VolumeInFivePasses gone = Told.quiet("i1n00;i2f00;e00b2;p0005;p1000;p2005;");
        Due.is("pointers gone", Told.asked(gone), "2,1,0 4,2,0");
        Due.is("pointers gone take none", gone.pointerThen(2, 0), 0);
        VolumeInFivePasses self = Told.quiet("i1h00;e00a1;p0000;p1000;b0008;");
        Due.is("a directory clones", self.pointerThen(1, 0), 1);
        VolumeInFivePasses full = Told.quiet("i0h00;");
        for (int b = 0; b < 24; b++) {
            full.kind(1 + b / 3, 1);
            full.points(1 + b / 3, b % 3, b);
        }
        full.kind(9, 1);
        full.points(9, 1, 23);
        full.points(0, 0, 4);
        Due.is("no block left", full.question(0, 0), 4);
        Due.is("no block left, who", full.question(0, 1), 2);
        Due.is("no block left, place", full.question(0, 2), 1);
        Due.is("no block left: none", full.pointerThen(2, 1), -9);
        Due.is("no block left: none of the last", full.pointerThen(9, 1), -9);
    }

    private static void passTwo() {
        Due.is("more slots than it lists", Told.asked(Told.quiet("i1f00;i2h00;e04a1;e03b2;e25c1;e15d1;e00e1;")), "5,0,4 5,1,5");
        Due.is("a home as inode 0", Told.asked(Told.quiet("i0h00;i1f00;e05a1;")), "");
        Due.is("an entry in none", Told.asked(Told.quiet("i1f00;e00a1;e50a1;e51a0;")), "5,5,0 5,5,1");
        Due.is("no such inode", Told.asked(Told.quiet("e00a1;e01b0;i2d00;e02c2;e20a0;e21a3;")), "6,0,0 6,0,1 6,2,0 6,2,1");
        VolumeInFivePasses names = Told.quiet("i1f00;i2f00;i3d00;e00d1;e01d2;e02c3;e30d1;");
        Due.is("the same name", Told.asked(names), "7,0,1 13,2,1");
        Due.is("the same name, attached", names.slotThen(0, 1), 52);
        Due.is("a name of an emptied slot", Told.asked(Told.quiet("i1f00;e00d5;e01d1;")), "6,0,0");
        Due.is("entered twice", Told.asked(Told.quiet("i1d00;i2d00;e00a1;e01b2;e10a2;e11b1;e12c2;")), "8,1,0 8,1,1 8,1,2");
        Due.is("entered twice in its own", Told.asked(Told.quiet("i1d00;e00a1;e01b1;e02b1;")), "8,0,1 8,0,2");
        Due.is("a name before a directory", Told.asked(Told.quiet("i1d00;e00a1;e01a1;")), "7,0,1");
        Due.is("a file twice", Told.asked(Told.quiet("i1f00;i2l00;i3g00;e00a1;e01b1;e02c2;e03d3;")), "");
        Due.is("a file in many", Told.asked(Told.quiet("i1f00;i2d00;e00a1;e01b2;e20a1;e21b1;")), "");
        Due.is("an emptied entry before", Told.asked(Told.quiet("i1d00;i2d02;e00a2;e14b2;e20c1;e04d1;")), "5,0,4 5,1,4 12,1,0 12,2,2");
        VolumeInFivePasses x = Told.quiet("i1d00;e00a1;e01b1;e02b1;");
        x.check();
        Due.is("emptied", x.slot(0, 0) * 10000 + x.slot(0, 1) * 100 + x.slot(0, 2), 26 * 10000 - 909);
    }

    private static void passThree() {
        Due.is("a ring of two", Told.asked(Told.quiet("i1d00;i2d01;e10a2;e20a1;")), "9,1,2 10,1,0");
        Due.is("a ring of one", Told.asked(Told.quiet("i1d00;e12a1;")), "9,1,1 10,1,0");
        Due.is("those without entries first", Told.asked(Told.quiet("i1d03;i3d00;e30a1;")), "10,3,0");
        Due.is("without entries, by numbers", Told.asked(Told.quiet("i5h00;i3d00;i4f00;e00a4;")), "10,3,1 10,5,2");
        Due.is("a ring behind one without",
            Told.asked(Told.quiet("i1d02;i2d01;i3d00;i4d03;e10a2;e20a1;e30a4;")), "10,3,0 9,1,2 10,1,1 12,1,2");
        Due.is("two rings", Told.asked(Told.quiet("i1d00;i2d01;i8d00;i9d08;e10a2;e20a1;e80a9;e90a8;")),
            "9,1,2 10,1,0 9,8,9 10,8,1");
        VolumeInFivePasses names = Told.quiet("i1d00;i2f00;i3f00;i4d00;e02a2;e01c3;");
        Due.is("attached where", Told.asked(names), "10,1,0 10,4,3");
        Due.is("the least name", names.slotThen(0, 0), 26 + 1);
        Due.is("the next least name", names.slotThen(0, 3), 26 * 4 + 3);
        VolumeInFivePasses ring = Told.quiet("i1d00;i2d01;e10a2;e20a1;");
        ring.check();
        Due.is("a ring, opened", ring.slot(2, 0), -9);
        Due.is("a ring, what stays", ring.slot(1, 0), 52);
        Due.is("a ring, attached", ring.slot(0, 0), 26);
    }

    private static void lost() {
        String full = "i1f00;i2f00;i3f00;i4f00;e00a1;e01b2;e02c3;e03d4;";
        VolumeInFivePasses x = Told.quiet(full + "i5d33;i6f12;e50a6;p5007;p6008;");
        Due.is("lost", Told.asked(x), "11,5,0 13,6,6");
        Due.is("lost inodes", x.loses(0), 2);
        Due.is("lost blocks", x.loses(1), 2);
        Due.is("lost entries", x.loses(2), 1);
        x.check();
        Due.is("lost: kinds", x.count(0), 31);
        for (int i = 5; i <= 6; i++) {
            Due.is("lost: pointer", x.pointer(i, 0), -9);
            Due.is("lost: slot", x.slot(i, 0), -9);
            Due.is("lost: links", x.links(i, 0, 0), 0);
        }
        Due.is("lost, and what was in it",
            Told.asked(Told.quiet(full + "i5d00;i6d05;i7d06;e50a6;e60a7;")), "11,5,0 11,6,0 11,7,0");
        Due.is("a ring lost",
            Told.asked(Told.quiet(full + "i8d00;i9d08;e80a9;e90a8;")), "9,8,9 11,8,0 11,9,0");
        Due.is("a home has room", Told.asked(Told.quiet(full + "i0h00;i5d33;i6d00;i7d00;i8f00;")),
            "10,5,4 10,6,5 11,7,0 12,5,3 13,8,6");
        VolumeInFivePasses loud = Told.of(full + "i5d33;i6f12;");
        Due.is("lost, nothing to count", Told.asked(loud),
            "11,5,0 14,1,0 14,2,0 14,3,0 14,4,0 13,6,6 16,0,0 16,1,0 16,2,0 16,3,0 16,4,0");
    }

    private static void parents() {
        VolumeInFivePasses x = Told.quiet("i1d07;i2h00;i3f05;i4n06;e00a1;e10a2;e11b3;");
        x.links(0, 0, 5);
        Due.is("parents", Told.asked(x), "12,0,5 12,1,7 12,2,0");
        x.check();
        Due.is("parents mended", x.inode(0, 2) * 100 + x.inode(1, 2) * 10 + x.inode(2, 2), 1);
        Due.is("other parents as they were", x.inode(3, 2) * 10 + x.inode(4, 2), 56);
        Due.is("the parent of one attached", Told.asked(Told.quiet("i2d08;")), "10,2,0 12,2,8");
    }

    private static void passFour() {
        VolumeInFivePasses x = Told.of("u0;u1;u2;u3;u4;i1f00;i2l50;i3g10;i4d20;e02a4;i9n30;");
        Due.is("counts, inode by inode", Told.asked(x),
            "13,1,0 14,1,0 13,2,1 14,2,5 13,3,3 14,4,2 14,9,3");
        x.check();
        Due.is("attached", x.slot(0, 0) * 1000 + x.slot(0, 1), 27 * 1000 + 26 * 2 + 2);
        Due.is("links counted", x.inode(1, 1) * 1000 + x.inode(2, 1) * 100 + x.inode(4, 1) * 10 + x.inode(9, 1), 1110);
        VolumeInFivePasses many = Told.of("i0h00;i2h10;i1f00;u0;u1;u2;e00a2;");
        for (int s = 1; s < 6; s++) {
            many.enters(0, s, s, 1);
            many.enters(2, s, s, 1);
        }
        Due.is("ten entries", Told.asked(many), "14,1,0");
        Due.is("ten entries: nine links", many.then(1, 1), 9);
        many.links(1, 9, 0);
        Due.is("ten entries, nine links", Told.asked(many), "");
        many.empties(2, 5);
        many.empties(2, 4);
        Due.is("eight entries", Told.asked(many), "14,1,9");
        Due.is("eight links", many.then(1, 1), 8);
        Due.is("a none with a slot", Told.asked(Told.of("u0;i3n10;e30a3;")), "5,3,0 14,3,1");
        VolumeInFivePasses zero = Told.of("u0;i0d40;");
        Due.is("links of inode 0", Told.asked(zero), "14,0,4");
    }

    private static void passFive() {
        VolumeInFivePasses x = Told.of("u0;u9;u4;i1f10;e00a1;m23;m05;p1005;p1104;p1224;p9003;m03;");
        Due.is("maps", Told.asked(x), "3,1,2 2,9,0 15,3,0 15,4,0 15,23,0 16,1,0 16,4,0 16,9,0");
        x.check();
        Due.is("map of blocks", x.count(3), 1 << 4 | 1 << 5);
        Due.is("map of inodes", x.count(4), 3);
        Due.is("maps behind lost ones",
            Told.asked(Told.of("i1f10;i2f10;i3f10;i4f10;e00a1;e01b2;e02c3;e03d4;i5f00;p5011;m11;u0;u1;u2;u3;u4;u5;")),
            "13,5,6 15,11,0 16,5,0");
    }

    // ---- promises 17 to 23 ----

    private static void questions() {
        VolumeInFivePasses x = Told.of("p0100;p0201;p0099;e00a0;m05;m06;");
        Due.is("asked", Told.asked(x), "2,0,1 2,0,2 6,0,0 15,5,0 15,6,0 16,0,0");
        int[] due = {6, 0, 2, 0, 0, 0, 1, 0, 0, 0, 0, 0, 0, 0, 0, 2, 1};
        for (int reason = 0; reason <= 16; reason++) {
            Due.is("questions(" + reason + ")", x.questions(reason), due[reason]);
        }
        Due.is("reasons", x.reasons(), 1 << 2 | 1 << 6 | 1 << 15 | 1 << 16);
        Due.is("sound", x.sound(), 0);
        Due.refusal(x, "questions(-1)", () -> x.questions(-1), -2);
        Due.refusal(x, "questions(17)", () -> x.questions(17), -2);
        Due.refusal(x, "question(0, 3)", () -> x.question(0, 3), -2);
        Due.refusal(x, "question(-1, -1)", () -> x.question(-1, -1), -2);
        Due.refusal(x, "question(-1, 0)", () -> x.question(-1, 0), -1);
        Due.refusal(x, "question(6, 2)", () -> x.question(6, 2), -1);
        Due.refusal(x, "question(greatest, 2)", () -> x.question(Integer.MAX_VALUE, 2), -1);
        Due.is("in mind alone", Told.asked(x), "2,0,1 2,0,2 6,0,0 15,5,0 15,6,0 16,0,0");
        VolumeInFivePasses y = Told.of(TREE);
        Due.is("reasons of none", y.reasons(), 0);
        Due.is("all of none", y.questions(0), 0);
        Due.refusal(y, "question(0, 0)", () -> y.question(0, 0), -1);
        y.kind(0, 3);
        Due.is("reason 1 among reasons", y.reasons() & 2, 2);
    }

    private static void then() {
        VolumeInFivePasses x = Told.of("i0h00;i1d57;i2f00;i3h00;i4l00;e00a1;e10b3;e11c2;e30a4;e31b2;p0000;p1000;p2001;p2102;p3003;");
        Told.tell(x, "e12d0;");
        int[][] due = {
            {5, 0, 0, 0, 4, 5}, {2, 1, 0, 1, 3, 4}, {1, 2, 0, 2, -9, 2}, {5, 1, 1, 2, 2, 3}, {3, 1, 0, 3, -9, 0},
            {0, 0, 0, -9, -9, 0},
        };
        for (int i = 0; i < due.length; i++) {
            for (int what = 0; what < 6; what++) {
                Due.is("then(" + i + ", " + what + ")", x.then(i, what), due[i][what]);
            }
        }
        Due.is("now", x.inode(1, 1) * 10 + x.inode(1, 2), 57);
        Due.refusal(x, "then(10, 6)", () -> x.then(10, 6), -1);
        Due.refusal(x, "then(-1, 0)", () -> x.then(-1, 0), -1);
        Due.refusal(x, "then(0, 6)", () -> x.then(0, 6), -2);
        Due.refusal(x, "then(0, -1)", () -> x.then(0, -1), -2);
        VolumeInFivePasses shared = Told.quiet("i1f00;i2f00;e00a1;e01b2;p1007;p1107;p2007;");
        shared.refuses(4);
        Due.is("own blocks, each once", shared.then(1, 5), 1);
        Due.is("blocks below, each once", shared.then(0, 5), 1);
        shared.refuses(4);
        Due.is("cloned blocks below", shared.then(0, 5), 3);
        VolumeInFivePasses chain = Told.quiet("i1d00;i2d00;i3d00;i4d00;i5d00;i6d00;i7d00;i8d00;i9f00;");
        for (int i = 0; i < 9; i++) {
            chain.enters(i, 3, 4, i + 1);
        }
        chain.enters(6, 2, 1, 9);
        Due.is("deep directory", chain.then(8, 3), 8);
        Due.is("deep file, by the least way", chain.then(9, 3), 7);
        Due.is("below the first", chain.then(0, 4), 9);
        Due.is("below the last", chain.then(8, 4), 1);
    }

    private static void slotThenAndPointerThen() {
        VolumeInFivePasses x = Told.quiet("i1f00;i2d00;e00z1;e01z2;p0033;p1022;p2022;");
        Due.is("slotThen(0, 0)", x.slotThen(0, 0), 51);
        Due.is("slotThen(0, 1)", x.slotThen(0, 1), 52);
        Due.is("slotThen(0, 2)", x.slotThen(0, 2), -9);
        Due.is("slot(0, 1)", x.slot(0, 1), 77);
        Due.is("pointerThen(0, 0)", x.pointerThen(0, 0), -9);
        Due.is("pointerThen(1, 0)", x.pointerThen(1, 0), 22);
        Due.is("pointerThen(2, 0)", x.pointerThen(2, 0), 0);
        Due.is("pointer(2, 0)", x.pointer(2, 0), 22);
        Due.refusal(x, "slotThen(10, 0)", () -> x.slotThen(10, 0), -1);
        Due.refusal(x, "slotThen(-1, 0)", () -> x.slotThen(-1, 0), -1);
        Due.refusal(x, "slotThen(0, 6)", () -> x.slotThen(0, 6), -1);
        Due.refusal(x, "slotThen(0, -1)", () -> x.slotThen(0, -1), -1);
        Due.refusal(x, "pointerThen(10, 0)", () -> x.pointerThen(10, 0), -1);
        Due.refusal(x, "pointerThen(-1, 0)", () -> x.pointerThen(-1, 0), -1);
        Due.refusal(x, "pointerThen(0, 3)", () -> x.pointerThen(0, 3), -1);
        Due.refusal(x, "pointerThen(0, -1)", () -> x.pointerThen(0, -1), -1);
    }

    // ---- promises 24 to 29 ----

    private static void largest() {
        VolumeInFivePasses x = Told.quiet("i1f00;i2f00;i3d00;i4f00;e00a1;e01b2;e02c3;e30a4;p2001;p4002;p4103;p9007;");
        int[] due = {0, 3, 4, 2, 1, -9, -9, -9, -9, -9};
        for (int i = 0; i < 10; i++) {
            Due.is("largest(" + i + ")", x.largest(i), due[i]);
        }
        Due.refusal(x, "largest(-1)", () -> x.largest(-1), -1);
        Due.refusal(x, "largest(10)", () -> x.largest(10), -1);
        VolumeInFivePasses lost = Told.quiet("i1f00;i2f00;i3f00;i4f00;e00a1;e01b2;e02c3;e03d4;i5d00;p5009;");
        Due.is("a lost one is none", lost.largest(5), -9);
        Due.is("inode 0, though none now", kindZero(lost), 0);
    }

    private static int kindZero(VolumeInFivePasses x) {
        x.kind(0, 0);
        return x.largest(0);
    }

    private static void second() {
        Due.is("second of a tree", Told.of(TREE).second(), 0);
        VolumeInFivePasses x = Told.of("i0f00;i1d07;i2d00;e10a2;e20a1;p0100;p1205;m03;");
        Due.is("many at first", x.sound(), 0);
        Due.is("second", x.second(), 0);
        Due.is("second leaves all as it is", x.count(3), 1 << 3);
    }

    private static void loses() {
        VolumeInFivePasses x = Told.quiet("i0f00;e00a1;e01b2;i1d00;p0005;p0106;p9007;p9107;p9230;");
        Due.is("loses no inodes", x.loses(0), 0);
        Due.is("loses blocks", x.loses(1), 3);
        Due.is("loses entries", x.loses(2), 1);
        VolumeInFivePasses more = Told.quiet("i1d00;i2d00;i3f00;e00a9;");
        Due.is("more entries then", more.loses(2), 0);
        VolumeInFivePasses stray = Told.quiet("e35a0;e90b1;i9f00;");
        Due.is("two entries less, one more", stray.loses(2), 1);
        VolumeInFivePasses cloned = Told.quiet("i1f00;e00a1;p0005;p1005;");
        Due.is("no block less", cloned.loses(1), 0);
        Due.refusal(x, "loses(3)", () -> x.loses(3), -2);
        Due.refusal(x, "loses(-1)", () -> x.loses(-1), -2);
    }

    private static void mend() {
        VolumeInFivePasses x = Told.of(TREE);
        Due.is("mend, sound", x.mend(0), -9);
        Due.is("mend, sound, questions", x.mend(1), -9);
        Told.tell(x, "i5f00;");
        Due.is("mend", x.mend(0), 5);
        Due.is("mend, questions", x.mend(1), 0);
        Told.tell(x, "i4f00;");
        Due.is("mend, the least of two", x.mend(0), 4);
        Due.is("mend, questions of one", x.mend(1), 3);
        Told.tell(x, "p5109;");
        Due.is("mend, fewest", x.mend(0), 5);
        Told.tell(x, "i4n00;i5n00;p5199;p6000;p6101;i9n30;");
        Due.is("mend, a none", x.mend(0), 6);
        Due.is("mend, a none, questions", x.mend(1), 1);
        Due.refusal(x, "mend(2)", () -> x.mend(2), -2);
        Due.refusal(x, "mend(-1)", () -> x.mend(-1), -2);
        VolumeInFivePasses first = Told.quiet("i1f00;i9f00;");
        Due.is("mend, inode 1", first.mend(0), 1);
        VolumeInFivePasses last = Told.quiet("p9000;");
        Due.is("mend, inode 9", last.mend(0), 9);
        VolumeInFivePasses root = Told.quiet("p0100;p0200;e04a1;e05b1;");
        Due.is("mend, never inode 0", root.mend(0), -9);
        VolumeInFivePasses y = new VolumeInFivePasses();
        Due.is("mend, none is fewer", y.mend(0), -9);
        Due.is("mend, none is fewer, questions", y.mend(1), -9);
    }

    private static void worst() {
        Due.is("worst of none", Told.of(TREE).worst(), -9);
        Due.is("worst of one", new VolumeInFivePasses().worst(), 16);
        Due.is("worst", Told.of("m01;m02;p0100;").worst(), 15);
        Due.is("worst, the least of two", Told.of("m01;m02;p0100;p0202;m02;").worst(), 2);
        Due.is("worst, reason 1", Told.of("u0;i0l00;").worst(), 1);
    }

    private static void shared() {
        VolumeInFivePasses x = Told.of("p0000;p1000;p9223;p9023;p9123;p3201;p5030;p5130;");
        Due.is("shared", x.shared(0), 1 << 23 | 1);
        Due.is("free", x.shared(1), 2);
        VolumeInFivePasses y = new VolumeInFivePasses();
        Due.is("shared, none", y.shared(0), 0);
        Due.is("free, the first", y.shared(1), 0);
        y.points(3, 1, 0);
        Due.is("shared, one pointer is none", y.shared(0), 0);
        for (int b = 0; b < 24; b++) {
            y.points(b / 3, b % 3, b);
        }
        Due.is("free, none", y.shared(1), -9);
        y.points(7, 2, 0);
        Due.is("free, the last", y.shared(1), 23);
        Due.is("shared, the first", y.shared(0), 1);
        Due.refusal(x, "shared(2)", () -> x.shared(2), -2);
        Due.refusal(x, "shared(-1)", () -> x.shared(-1), -2);
    }

    // ---- promises 30, 31 ----

    private static void damage() {
        VolumeInFivePasses x = Told.of(TREE);
        fraction("damage(0, 2)", x.damage(0, 2, 0), x.damage(0, 2, 1), 1, 1);
        fraction("damage(1, 20)", x.damage(1, 20, 0), x.damage(1, 20, 1), 1, 1);
        fraction("damage(2, 2)", x.damage(2, 2, 0), x.damage(2, 2, 1), 3, 4);
        fraction("damage(3, 2)", x.damage(3, 2, 0), x.damage(3, 2, 1), 1, 4);
        fraction("damage(3, 3)", x.damage(3, 3, 0), x.damage(3, 3, 1), 4, 9);
        fraction("damage(3, 20)", x.damage(3, 20, 0), x.damage(3, 20, 1), 361, 400);
        fraction("damage(4, 5)", x.damage(4, 5, 0), x.damage(4, 5, 1), 0, 1);
        fraction("damage(10, 2)", x.damage(10, 2, 0), x.damage(10, 2, 1), 0, 1);
        Due.is("damage is in mind alone", x.sound(), 1);
        VolumeInFivePasses full = Told.quiet("i1d00;i6f00;i7f00;i8f00;i9f00;e00a6;e01b7;e02c8;e03d9;");
        fraction("damage makes room", full.damage(5, 2, 0), full.damage(5, 2, 1), 3, 4);
        fraction("damage, six", full.damage(6, 2, 0), full.damage(6, 2, 1), 0, 1);
        fraction("damage, four", full.damage(4, 2, 0), full.damage(4, 2, 1), 1, 1);
        VolumeInFivePasses all = Told.quiet("i0h00;i1f00;i2f00;i3f00;i4f00;i5f00;i6f00;");
        fraction("damage, all of six", all.damage(7, 20, 0), all.damage(7, 20, 1), 47045881, 64000000);
        fraction("damage, none of six", all.damage(2, 20, 0), all.damage(2, 20, 1), 63999999, 64000000);
        Due.longRefusal(x, "damage(-1, 21, 2)", () -> x.damage(-1, 21, 2), -4);
        Due.longRefusal(x, "damage(11, 1, 0)", () -> x.damage(11, 1, 0), -4);
        Due.longRefusal(x, "damage(11, 2, 2)", () -> x.damage(11, 2, 2), -6);
        Due.longRefusal(x, "damage(0, 21, 2)", () -> x.damage(0, 21, 2), -6);
        Due.longRefusal(x, "damage(0, 2, 2)", () -> x.damage(0, 2, 2), -2);
        Due.longRefusal(x, "damage(0, 2, -1)", () -> x.damage(0, 2, -1), -2);
        Due.is("a refusal as a long", x.damage(-1, 2, 0), 4000000000000000004L);
    }

    private static void fraction(String call, long above, long below, long dueAbove, long dueBelow) {
        Due.is(call + ", above", above, dueAbove);
        Due.is(call + ", below", below, dueBelow);
    }

    private static void mean() {
        VolumeInFivePasses x = Told.of(TREE);
        fraction("mean", x.mean(0), x.mean(1), 4, 3);
        Told.tell(x, "p9223;i7l00;p7024;");
        fraction("mean, of none too", x.mean(0), x.mean(1), 5, 4);
        Told.tell(x, "p9123;");
        fraction("mean, in least terms", x.mean(0), x.mean(1), 3, 2);
        VolumeInFivePasses y = new VolumeInFivePasses();
        fraction("mean, no pointers", y.mean(0), y.mean(1), 0, 1);
        Told.tell(y, "p0100;i1f00;");
        fraction("mean, a half", y.mean(0), y.mean(1), 1, 2);
        Told.tell(y, "i1n00;p0223;p1223;");
        fraction("mean, by one", y.mean(0), y.mean(1), 3, 1);
        Told.tell(y, "i0n00;");
        fraction("mean, no inodes", y.mean(0), y.mean(1), 0, 1);
        Due.longRefusal(x, "mean(2)", () -> x.mean(2), -2);
        Due.longRefusal(x, "mean(-1)", () -> x.mean(-1), -2);
        Due.is("mean refused", x.mean(2), 4000000000000000002L);
    }

    // ---- promises 32 to 35 ----

    private static void whatIs() {
        VolumeInFivePasses x = new VolumeInFivePasses();
        Due.is("no row, kinds", x.whatIs(3, 0), 63);
        Due.is("no row, numbers", x.whatIs(3, 1), 1023);
        x.row(16);
        Due.is("of inode 1", x.whatIs(1, 0), 1);
        Due.is("numbers of inode 1", x.whatIs(1, 1), 1);
        Due.is("of inode 0", x.whatIs(0, 0), 1 << 2 | 1 << 5);
        Due.is("the row stays", x.clear(), 1);
        x.row(1);
        Due.is("of inode 0, reason 1", x.whatIs(0, 0), 27);
        x.row(16);
        Due.is("of inode 0, all of it", x.whatIs(0, 0), 27);
        x.row(16);
        Due.is("a row too long", x.whatIs(0, 0), 0);
        VolumeInFivePasses tree = Told.of(TREE);
        tree.row(14);
        Due.is("numbers", tree.whatIs(2, 1), 1021);
        Due.is("kinds, sound", tree.whatIs(2, 0), 0);
        tree.row(14);
        Due.is("numbers, too long", tree.whatIs(2, 1), 0);
        tree.clear();
        tree.row(2);
        Due.is("kinds by a pointer too many", tree.whatIs(2, 0), 1 | 1 << 2 | 1 << 3 | 1 << 5);
        tree.row(2);
        Due.is("kinds by two pointers too many", tree.whatIs(2, 0), 1 | 1 << 3);
        tree.row(6);
        Due.is("kinds by an entry to none", tree.whatIs(2, 0), 1);
        Due.is("it is as it was", tree.sound(), 1);
        Due.refusal(x, "whatIs(10, 2)", () -> x.whatIs(10, 2), -1);
        Due.refusal(x, "whatIs(-1, 0)", () -> x.whatIs(-1, 0), -1);
        Due.refusal(x, "whatIs(0, 2)", () -> x.whatIs(0, 2), -2);
        Due.refusal(x, "whatIs(0, -1)", () -> x.whatIs(0, -1), -2);
    }

    private static void rowJudgeClear() {
        VolumeInFivePasses x = new VolumeInFivePasses();
        Due.is("row(0)", x.row(0), 1);
        Due.is("row(99)", x.row(99), 2);
        Due.refusal(x, "row(-1)", () -> x.row(-1), -4);
        Due.refusal(x, "row(100)", () -> x.row(100), -6);
        for (int i = 3; i <= 32; i++) {
            Due.is("row " + i, x.row(1), i);
        }
        Due.refusal(x, "row 33", () -> x.row(1), -6);
        Due.refusal(x, "row(-1), full", () -> x.row(-1), -4);
        Due.is("in the row", x.count(6), 32);
        Due.is("clear", x.clear(), 32);
        Due.is("clear again", x.clear(), 0);
        Due.is("judge, no row", x.judge(), -9);
        VolumeInFivePasses tree = Told.of("i1d10;i2f10;e00a1;e10b2;e01c2;i5n40;");
        int[] due = {0, 1, 2, 0, 0, 0, 0, 0, 0, 0, 0};
        for (int i = 0; i < 10; i++) {
            tree.row(due[i]);
        }
        Due.is("judge, all so", tree.judge(), -9);
        Due.is("judge leaves no row", tree.count(6), 0);
        for (int i = 0; i < 11; i++) {
            tree.row(due[i]);
        }
        Due.is("judge, no such inode", tree.judge(), 10);
        Due.is("judge leaves no row then either", tree.count(6), 0);
        tree.row(0);
        tree.row(1);
        tree.row(1);
        tree.row(7);
        Due.is("judge, the first", tree.judge(), 2);
        tree.row(9);
        Due.is("judge, inode 0", tree.judge(), 0);
        tree.refuses(14);
        tree.row(0);
        tree.row(1);
        tree.row(1);
        Due.is("judge, refused", tree.judge(), -9);
    }

    // ---- promise 36 ----

    private static void lots() {
        for (int z : new int[] {0, 1, -1, 77, 20261118, Integer.MIN_VALUE, Integer.MAX_VALUE}) {
            VolumeInFivePasses x = Told.of(TREE);
            x.image();
            long[] due = lotsByHand(x, 3, z);
            x.on();
            Due.is("lots(3, " + z + ", 0)", x.lots(3, z, 0), due[0]);
            Due.is("lots(3, " + z + ", 1)", x.lots(3, z, 1), due[1]);
            Due.is("lots again", x.lots(3, z, 0), due[0]);
            Due.is("lots leave all as it is", x.sound(), 1);
        }
        VolumeInFivePasses x = new VolumeInFivePasses();
        Due.is("lots of twenty", x.lots(20, 5, 1) >= 20 ? 1 : 0, 1);
        Due.refusal(x, "lots(0, 0, 2)", () -> x.lots(0, 0, 2), -4);
        Due.refusal(x, "lots(21, 0, 2)", () -> x.lots(21, 0, 2), -6);
        Due.refusal(x, "lots(20, 0, 2)", () -> x.lots(20, 0, 2), -2);
        Due.refusal(x, "lots(1, 0, -1)", () -> x.lots(1, 0, -1), -2);
    }

    /** The volumes told by lot, made by calls on the object itself. */
    private static long[] lotsByHand(VolumeInFivePasses x, int n, int seed) {
        long z = seed;
        long questions = 0;
        long inodes = 0;
        for (int i = 0; i < n; i++) {
            x.on();
            for (int turn = 0; turn < 6; turn++) {
                long[] drawn = new long[5];
                int[] most = {3, 0, 0, 0, 0};
                int draws = 1;
                for (int d = 0; d < draws; d++) {
                    z = (int) (z * 1664525 + 1013904223);
                    drawn[d] = (z < 0 ? z + 2147483648L : z) / 256 % most[d];
                    if (d == 0) {
                        most = new int[][] {{3, 3, 10, 26}, {3, 6, 10, 26, 10}, {3, 10, 6}}[(int) drawn[0]];
                        draws = most.length;
                    }
                }
                if (drawn[0] == 0) {
                    x.points((int) drawn[2], (int) drawn[1], (int) drawn[3]);
                } else if (drawn[0] == 1) {
                    x.enters((int) drawn[2], (int) drawn[1], (int) drawn[3], (int) drawn[4]);
                } else {
                    x.kind((int) drawn[1], (int) drawn[2]);
                }
            }
            questions += x.check();
            inodes += Integer.bitCount(x.count(0));
        }
        return new long[] {questions, inodes};
    }

    // ---- promises 37 to 39 ----

    private static void imageAndOn() {
        VolumeInFivePasses x = Told.of(TREE);
        Due.refusal(x, "on()", () -> x.on(), -3);
        x.refuses(12);
        Told.tell(x, "b0542;e20c7;");
        Due.is("image", x.image(), 3);
        x.row(5);
        x.letter('c');
        x.refuses(12);
        x.refuses(4);
        Told.tell(x, ";i9f98;i1n00;i3d00;i4d00;p2009;e00z9;x10;b0500;m20;u9;x20;");
        x.letter('c');
        x.letter(';');
        x.row(6);
        x.row(-1);
        x.inode(10, 0);
        Due.is("inodes", x.count(0), 1 | 4 | 8 | 16 | 512);
        Due.is("on", x.on(), 3);
        Due.is("on: inodes", x.count(0), 7);
        Due.is("on: directories", x.count(1), 3);
        Due.is("on: blocks", x.count(2), 15);
        Due.is("on: marks", x.count(3) * 16 + x.count(4), 15 * 16 + 7);
        Due.is("on: refused", x.count(5), 1 << 12);
        Due.is("on: the row is as it is", x.count(6), 2);
        Due.is("on: letters are as they are", x.count(7), 2);
        Due.is("on: refusals are as they are", x.count(11) * 100 + x.count(13) * 10 + x.count(14), 111);
        Due.is("on: byte", x.block(5, 0), 42);
        Due.is("on: slots", x.slot(0, 0) * 10000 + x.slot(1, 0) * 100 + x.slot(2, 0) % 100, 26 * 10000 + 5300 + 84);
        Due.is("on: links, parent", x.links(9, 0, 0), 0);
        Due.is("on: pointer", x.pointer(2, 0), 2);
        x.kind(0, 0);
        x.kind(1, 0);
        Due.is("on again", x.on(), 3);
        x.kind(5, 3);
        Due.is("a later image", x.image(), 4);
        x.kind(6, 3);
        Due.is("on from the later", x.on(), 4);
        Due.is("on: the later", x.count(0), 39);
    }

    private static void count() {
        VolumeInFivePasses x = Told.of("i1f00;i3d00;i4l00;i6g00;i9h00;p1023;p2100;p9224;m07;m23;u3;u9;");
        x.refuses(16);
        x.row(3);
        x.letter(1);
        x.letter(2);
        int[] due = {
            1 | 2 | 8 | 16 | 64 | 512, 1 | 8 | 512, 1 << 23 | 1, 1 << 23 | 1 << 7, 1 << 9 | 1 << 3, 1 << 16, 1, 2,
            -9, -9, -9, 0, 0, 0, 0, 0, 0, -9,
        };
        for (int what = 0; what < due.length; what++) {
            Due.is("count(" + what + ")", x.count(what), due[what]);
        }
        x.kind(0, 4);
        Due.is("directories without inode 0", x.count(1), 8 | 512);
        x.on();
        x.row(-1);
        x.row(-2);
        x.row(100);
        x.row(100);
        x.row(100);
        x.kind(0, 6);
        x.kind(10, 6);
        x.damage(-1, 2, 0);
        Due.is("-1", x.count(11), 1);
        Due.is("-2", x.count(12), 1);
        Due.is("-3", x.count(13), 1);
        Due.is("-4", x.count(14), 3);
        Due.is("-5", x.count(15), 0);
        Due.is("-6", x.count(16), 3);
        Due.is("count(-1)", x.count(-1), -9);
        Due.is("count(least int)", x.count(Integer.MIN_VALUE), -9);
        Due.is("count(greatest int)", x.count(Integer.MAX_VALUE), -9);
        Due.is("no refusal", x.count(12), 1);
    }
}

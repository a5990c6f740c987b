/** The five passes of a CHECK: each sentence of the document that names an edge, with a test of its own. */
public final class CheckEdgeTests {
    /** Links and maps are not asked for. */
    private static final String QUIET = "r14;r15;r16;";
    private static final String LETTERS = "nfdlgh";
    private static final int[] HOLDS = {0, 3, 1, 0, 2, 1};
    private static final int[] LISTS = {0, 0, 4, 0, 0, 6};

    private CheckEdgeTests() {
    }

    public static void main(String[] args) {
        inodeZeroIsNoDirectory();
        inodeZeroIsWiped();
        pointersByKind();
        pointersBeyondComeFirst();
        numbersAboveBlocks();
        earlierPointers();
        clonesByKind();
        theLeastFreeBlock();
        theLastFreeBlock();
        noFreeBlock();
        bytesOfClones();
        slotsByKind();
        reasonsOfEntriesInOrder();
        entriesToNoneAndZero();
        namesOfItsOwn();
        directoriesEnteredTwice();
        reached();
        theLeastWithoutEntry();
        noneWithoutEntry();
        firstEmptySlot();
        leastName();
        lostDirectories();
        whatAnInodeLosesByReason11();
        parentsOfDirectories();
        filesWithoutEntry();
        lostFiles();
        linksUpToNine();
        linksOfAll();
        mapOfBlocks();
        mapOfInodes();
        refusedReasons();
        soundAndFullest();
        Due.end("CheckEdgeTests");
    }

    private static VolumeInFivePasses quiet(String text) {
        return Told.made(QUIET + text);
    }

    private static void asks(String text, String due) {
        Due.is("asked of " + text, Told.asked(quiet(text)), due);
    }

    private static void asksAll(String text, String due) {
        Due.is("all asked of " + text, Told.asked(Told.made(text)), due);
    }

    // ---- pass 1 ----

    /** "1: INODE 0 is no DIRECTORY" */
    private static void inodeZeroIsNoDirectory() {
        for (int kind = 0; kind <= 5; kind++) {
            boolean isDirectory = kind == 2 || kind == 5;
            asks("k0" + kind + ";", isDirectory ? "" : "1,0,0");
            VolumeInFivePasses x = quiet("k0" + kind + ";");
            Due.is("kind then, from " + kind, x.then(0, 0), kind == 5 ? 5 : 2);
        }
        asks("k11;k00;e00a1;", "1,0,0 13,1,0");
    }

    /** "it is a DIR, all its POINTERS none, SLOTS empty, LINKS and PARENT 0": before any other question of it. */
    private static void inodeZeroIsWiped() {
        VolumeInFivePasses x = Told.made("i0f99;p0098;p0105;p0298;e00a0;e01a9;e02b0;e03c0;e04d0;e05z9;b0577;m05;u0;");
        Due.is("wiped", Told.asked(x), "1,0,0 15,5,0");
        Due.is("wiped, checked", x.check(), 2);
        Due.is("wiped: kind, links, parent", x.inode(0, 0) * 100 + x.inode(0, 1) * 10 + x.inode(0, 2), 200);
        for (int p = 0; p < 3; p++) {
            Due.is("wiped: pointer " + p, x.pointer(0, p), -9);
        }
        for (int s = 0; s < 6; s++) {
            Due.is("wiped: slot " + s, x.slot(0, s), -9);
        }
        Due.is("its mark is as it was", x.inode(0, 3), 1);
        Due.is("a byte is as it was", x.block(5, 0), 77);
        asks("k03;p0005;k11;e05z1;p1005;", "1,0,0 13,1,0");
    }

    /** "2: one that is not none, and is POINTER number HOLDS or more of its INODE" */
    private static void pointersByKind() {
        for (int kind = 0; kind <= 5; kind++) {
            String entry = kind == 0 ? "" : "e00a1;";
            StringBuilder due = new StringBuilder();
            for (int p = HOLDS[kind]; p < 3; p++) {
                due.append(due.length() == 0 ? "" : " ").append("2,1,").append(p);
            }
            String text = "k1" + kind + ";" + entry + "p1000;p1111;p1223;";
            asks(text, due.toString());
            VolumeInFivePasses x = quiet(text);
            x.check();
            int[] to = {0, 11, 23};
            for (int p = 0; p < 3; p++) {
                Due.is("pointer " + p + " of kind " + kind, x.pointer(1, p), p < HOLDS[kind] ? to[p] : -9);
            }
            asks("k1" + kind + ";" + entry + "p1099;p1199;p1299;", "");
        }
        asks("p0000;p0101;p0202;", "2,0,1 2,0,2");
        asks("p9000;p9298;", "2,9,0 2,9,2");
        asks("k05;p0000;p0101;", "2,0,1");
    }

    /** "else 3", "else 4": one question of a pointer, the first that fits. */
    private static void pointersBeyondComeFirst() {
        asks("p0124;", "2,0,1");
        asks("p0298;", "2,0,2");
        asks("p0005;p0105;", "2,0,1");
        asks("k11;e00a1;p0024;p1024;", "3,0,0 3,1,0");
        asks("k11;e00a1;p1098;p1198;p1298;", "3,1,0 3,1,1 3,1,2");
        asks("k11;e00a1;p0105;p1005;", "2,0,1");
    }

    /** "3: it is to a number 24 or more" */
    private static void numbersAboveBlocks() {
        for (int to = 0; to <= 98; to++) {
            String text = "p00" + String.valueOf(100 + to).substring(1) + ";";
            asks(text, to <= 23 ? "" : "3,0,0");
            Due.is("then of " + text, quiet(text).pointerThen(0, 0), to <= 23 ? to : -9);
        }
    }

    /** "4: an earlier POINTER (of a lesser INODE, or a lesser one of its own) is to the same BLOCK" */
    private static void earlierPointers() {
        String two = "k11;k21;e00a1;e01b2;";
        asks(two + "p1005;p2005;", "4,2,0");
        asks(two + "p1205;p2005;", "4,2,0");
        asks(two + "p1005;p1105;", "4,1,1");
        asks(two + "p1005;p1205;", "4,1,2");
        asks(two + "p1000;p1100;p1200;p2000;", "4,1,1 4,1,2 4,2,0");
        asks(two + "p1023;p2223;", "4,2,2");
        asks(two + "p1005;p1106;p1207;p2008;p2109;p2210;", "");
        VolumeInFivePasses x = quiet(two + "p1205;p2005;");
        Due.is("the earlier stays", x.pointerThen(1, 2), 5);
        Due.is("the later is mended", x.pointerThen(2, 0), 0);
        asks(two + "p0005;p9005;p1005;", "4,1,0 2,9,0");
        asks("k11;k21;e00a2;e01b1;k31;p3005;p2005;e02c3;", "4,3,0");
    }

    /** "if its INODE CLONES": all but LOGS do. */
    private static void clonesByKind() {
        for (int kind : new int[] {1, 2, 4, 5}) {
            VolumeInFivePasses x = quiet("k1" + kind + ";e00a1;p0005;p1005;b0542;");
            Due.is("asked, kind " + kind, Told.asked(x), "4,1,0");
            x.check();
            Due.is("clone of kind " + kind, x.pointer(1, 0), kind == 4 ? -9 : 0);
            Due.is("byte of kind " + kind, x.block(0, 0), kind == 4 ? 0 : 42);
        }
        VolumeInFivePasses log = quiet("k11;k24;e00a1;e01b2;p1005;p2005;p2105;b0542;");
        Due.is("both of a log", Told.asked(log), "4,2,0 4,2,1");
        Due.is("both of a log are none", log.pointerThen(2, 0) + log.pointerThen(2, 1), -18);
        VolumeInFivePasses own = quiet("k14;e00a1;p1005;p1105;");
        Due.is("of a log's own", Told.asked(own), "4,1,1");
        Due.is("of a log's own, the earlier", own.pointerThen(1, 0), 5);
        Due.is("of a log's own, the later", own.pointerThen(1, 1), -9);
    }

    /** "some BLOCK has no POINTER to it, the least such": by its number, whatever its INODE's KIND, and when it comes. */
    private static void theLeastFreeBlock() {
        String one = "k11;e00a1;p1005;p1105;";
        Due.is("block 0", quiet(one).pointerThen(1, 1), 0);
        Due.is("not 0, an earlier pointer", quiet(one + "p0000;").pointerThen(1, 1), 1);
        Due.is("not 0, a later pointer", quiet(one + "p1200;").pointerThen(1, 1), 1);
        Due.is("not 0, a pointer of none", quiet(one + "p9200;").pointerThen(1, 1), 1);
        Due.is("0, as its earlier pointer is mended", quiet(one + "p0100;").pointerThen(1, 1), 0);
        Due.is("not a marked one is what counts", quiet(one + "m00;m01;").pointerThen(1, 1), 0);
        Due.is("not its own block", quiet("k11;e00a1;p1000;p1100;").pointerThen(1, 1), 1);
        VolumeInFivePasses two = quiet("k11;e00a1;p1005;p1105;p1205;p0000;p9002;");
        Due.is("the least", two.pointerThen(1, 1), 1);
        Due.is("the next least", two.pointerThen(1, 2), 3);
        VolumeInFivePasses gone = quiet("k14;k21;e00a1;e01b2;p0005;p1005;p2005;p0100;");
        Due.is("of a log none, of a file the least", gone.pointerThen(1, 0) * 100 + gone.pointerThen(2, 0), -900);
    }

    /** Inode 0 (a HOME) has 1 (a HOME) and 2 .. 6, that has 7 .. 9; files 2 .. 9 have all blocks, from 0 on. */
    private static VolumeInFivePasses allBlocks() {
        VolumeInFivePasses x = quiet("k05;k15;e00a1;e01b2;e02c3;e03d4;e04e5;e05f6;e10a7;e11b8;e12c9;");
        for (int b = 0; b < 24; b++) {
            x.kind(2 + b / 3, 1);
            x.points(2 + b / 3, b % 3, b);
        }
        return x;
    }

    /** One block left: the first to clone has it, the next finds none. */
    private static void theLastFreeBlock() {
        VolumeInFivePasses x = allBlocks();
        Told.make(x, "p9299;p0003;p1003;b0361;");
        Due.is("one left", Told.asked(x), "4,1,0 4,3,0");
        x.check();
        Due.is("one left: the first", x.pointer(1, 0), 23);
        Due.is("one left: its byte", x.block(23, 0), 61);
        Due.is("one left: the next", x.pointer(3, 0), -9);
        Due.is("one left: the earliest stays", x.pointer(0, 0), 3);
        Due.is("none is free then", x.shared(1), -9);
    }

    /** "else none" */
    private static void noFreeBlock() {
        VolumeInFivePasses x = allBlocks();
        Due.is("all blocks, none twice", Told.asked(x), "");
        Told.make(x, "p0003;p1023;b0361;b2362;");
        Due.is("none left", Told.asked(x), "4,3,0 4,9,2");
        x.check();
        Due.is("none left: none", x.pointer(3, 0), -9);
        Due.is("none left: nor of the last", x.pointer(9, 2), -9);
        Due.is("none left: bytes as they were", x.block(3, 0) * 100 + x.block(23, 0), 6162);
        Told.make(x, "p0003;p1003;");
        Due.is("block 23 is left again", x.pointerThen(1, 0), 23);
        Told.make(x, "p9199;");
        Due.is("one is left again", x.pointerThen(1, 0), 22);
    }

    /** "the least such has the BYTE of that BLOCK" */
    private static void bytesOfClones() {
        VolumeInFivePasses x = quiet("k11;e00a1;p0005;p1005;p1105;b0599;b0011;b0112;b0213;");
        x.check();
        Due.is("bytes", x.block(0, 0) * 10000 + x.block(1, 0) * 100 + x.block(2, 0), 999913);
        Due.is("the byte of that block", x.block(5, 0), 99);
        VolumeInFivePasses zero = quiet("k11;e00a1;p0005;p1005;b0077;");
        zero.check();
        Due.is("a byte 0", zero.block(0, 0), 0);
        VolumeInFivePasses mind = quiet("k11;e00a1;p0005;p1005;b0542;");
        mind.questions(0);
        Due.is("in mind no byte changes", mind.block(0, 0), 0);
    }

    // ---- pass 2 ----

    /** "5: it is in SLOT number LISTS or more of its INODE" */
    private static void slotsByKind() {
        for (int kind = 0; kind <= 5; kind++) {
            String entry = kind == 0 ? "" : "e01b1;";
            String text = "k1" + kind + ";k91;e00a9;" + entry + "e10a9;e11b9;e12c9;e13d9;e14e9;e15f9;";
            StringBuilder due = new StringBuilder();
            for (int s = LISTS[kind]; s < 6; s++) {
                due.append(due.length() == 0 ? "" : " ").append("5,1,").append(s);
            }
            asks(text, due.toString());
            Due.is("the last that stays of kind " + kind,
                LISTS[kind] > 0 ? quiet(text).slotThen(1, LISTS[kind] - 1) : 0,
                LISTS[kind] > 0 ? 26 * 9 + LISTS[kind] - 1 : 0);
            Due.is("the first that goes of kind " + kind,
                LISTS[kind] < 6 ? quiet(text).slotThen(1, LISTS[kind]) : -9, -9);
        }
        asks("k11;e03a1;", "");
        asks("k11;e00b1;e04a1;", "5,0,4");
        asks("k05;k11;e05a1;", "");
        asks("k11;e00a1;e90a1;e95b1;", "5,9,0 5,9,5");
    }

    /** "else 6", "else 7", "else 8": one question of an entry, the first that fits. */
    private static void reasonsOfEntriesInOrder() {
        asks("e04a0;", "5,0,4");
        asks("e05a9;", "5,0,5");
        asks("k11;e00a1;e04a1;", "5,0,4");
        asks("k12;e00a1;e04b1;", "5,0,4");
        asks("k11;e00a1;e01a9;", "6,0,1");
        asks("k11;e00a1;e01a0;", "6,0,1");
        asks("k12;e00a1;e01a1;", "7,0,1");
        asks("k12;e00a1;e01b1;", "8,0,1");
    }

    /** "6: the INODE of its number is NONE, or is INODE 0" */
    private static void entriesToNoneAndZero() {
        asks("e00a0;", "6,0,0");
        asks("k12;e00a1;e10a0;", "6,1,0");
        asks("k05;e05z0;", "6,0,5");
        for (int kind = 0; kind <= 5; kind++) {
            asks("k9" + kind + ";e00a9;", kind == 0 ? "6,0,0" : "");
        }
        asks("e00a1;e01b2;e02c8;e03d9;", "6,0,0 6,0,1 6,0,2 6,0,3");
    }

    /** "7: a lesser SLOT of its own has the same NAME" */
    private static void namesOfItsOwn() {
        asks("k11;k21;k31;e00a1;e01a2;e02b3;", "7,0,1 13,2,1");
        asks("k11;e00z1;e01z1;e02z1;e03z1;", "7,0,1 7,0,2 7,0,3");
        asks("k12;k21;e00a1;e10a2;", "");
        asks("k12;k21;e00b1;e10a2;e11a2;", "7,1,1");
        asks("k11;e00a1;e01b1;e02a1;e03b1;", "7,0,2 7,0,3");
        asks("k11;k12;e00a1;e01b1;k21;e02b2;", "8,0,1");
        asks("k21;e00a0;e01a2;", "6,0,0");
        asks("k05;k11;e00a1;e05a1;", "7,0,5");
    }

    /** "8: the INODE of its number is a DIRECTORY, to which an earlier ENTRY is, too" */
    private static void directoriesEnteredTwice() {
        asks("k12;e00a1;e03b1;", "8,0,3");
        asks("k15;e00a1;e03b1;", "8,0,3");
        asks("k12;k22;e00a1;e01b2;e20a1;", "8,2,0");
        asks("k12;k22;e03b2;e00a1;e13a2;", "8,1,3");
        asks("k12;e00a1;e10a1;", "8,1,0");
        asks("k11;k23;k34;e00a1;e01b1;e02c2;e03d3;k95;", "11,9,0");
        asks("k11;e00a1;e01b1;e02c1;e03d1;", "");
        asks("k22;e00a0;e10a2;e01b2;", "6,0,0 5,1,0");
        asks("k12;k22;e00a0;e01a1;e02c2;e10b2;", "6,0,0 8,1,0");
    }

    // ---- pass 3 ----

    /** "REACHED: INODE 0, and DIRECTORIES to which an ENTRY of a REACHED one is", through any number of them. */
    private static void reached() {
        StringBuilder chain = new StringBuilder();
        for (int i = 0; i < 9; i++) {
            chain.append("e").append(i).append("0a").append(i + 1).append(";i").append(i + 1).append("d0").append(i).append(';');
        }
        asks(chain.toString(), "");
        asks(chain + "x00;", "10,1,0");
        asks(chain + "x40;", "10,5,1 12,5,4");
        asks(chain + "x80;", "10,9,1 12,9,8");
        asks("i9d00;i8d09;i7d08;e00a9;e90a8;e80a7;", "");
    }

    /** "the least of these to which no ENTRY is is taken", again and again */
    private static void theLeastWithoutEntry() {
        asks("k12;", "10,1,0");
        asks("k92;", "10,9,0");
        asks("k92;k52;k72;", "10,5,0 10,7,1 10,9,2");
        asks("i1d09;k92;e90a1;", "10,9,0");
        asks("i1d02;i2d03;k32;e30a2;e20a1;", "10,3,0");
        asks("i1d09;i9d01;e10a9;e90a1;k52;", "10,5,0 9,1,9 10,1,1 12,1,9");
    }

    /** "if there is none such, the least of them, and 9: the ENTRY to it is empty (WHO that one, PLACE the INODE ..)" */
    private static void noneWithoutEntry() {
        asks("k12;e10a1;", "9,1,1 10,1,0");
        asks("k95;e95z9;", "9,9,9 10,9,0");
        asks("k12;i9d01;e10a9;e93a1;", "9,1,9 10,1,0");
        asks("i1d02;i2d03;i3d02;e20a3;e21b1;e30a2;", "9,1,2 10,1,0 9,2,3 10,2,1 12,1,2 12,2,3");
        VolumeInFivePasses x = quiet("k12;i9d01;e10a9;e93a1;");
        x.check();
        Due.is("the entry is empty", x.slot(9, 3), -9);
        Due.is("the other stays", x.slot(1, 0), 26 * 9);
        Due.is("attached", x.slot(0, 0), 26);
        asks("k12;e10a1;k22;e20a2;k32;e30a3;k42;e40a4;k52;e50a5;",
            "9,1,1 10,1,0 9,2,2 10,2,1 9,3,3 10,3,2 9,4,4 10,4,3 9,5,5 11,5,0");
    }

    /** "10: the first empty SLOT (below LISTS) of INODE 0": the first, one between, the last, none. */
    private static void firstEmptySlot() {
        asks("k52;", "10,5,0");
        asks("k21;k31;e01a2;e02b3;k52;", "10,5,0");
        asks("k11;k31;e00a1;e02c3;k52;", "10,5,1");
        asks("k11;k21;k31;e00a1;e01b2;e02c3;k52;", "10,5,3");
        asks("k11;k21;k31;k41;e00a1;e01b2;e02c3;e03d4;k52;", "11,5,0");
        asks("k05;k11;e00a1;e01b1;e02c1;e03d1;e04e1;k52;", "10,5,5");
        asks("k05;k11;e00a1;e01b1;e02c1;e03d1;e04e1;e05f1;k52;", "11,5,0");
        asks("k11;e00a1;e01b1;e02c1;e03d1;e04e1;k52;", "5,0,4 11,5,0");
        asks("k11;e00a1;e01b1;e02c9;e03d1;k52;", "6,0,2 10,5,2");
    }

    /** "with the least NAME that no ENTRY of INODE 0 has" */
    private static void leastName() {
        Due.is("a", quiet("k52;").slotThen(0, 0), 130);
        Due.is("a, as b is there", quiet("k11;e00b1;k52;").slotThen(0, 1), 130);
        Due.is("b, as a is there", quiet("k11;e00a1;k52;").slotThen(0, 1), 131);
        Due.is("b, as a and c are there", quiet("k11;e00c1;e01a1;k52;").slotThen(0, 2), 131);
        Due.is("d", quiet("k11;e00c1;e01a1;e02b1;k52;").slotThen(0, 3), 133);
        Due.is("a, as z is there", quiet("k11;e00z1;k52;").slotThen(0, 1), 130);
        Due.is("f", quiet("k05;k11;e00e1;e01d1;e02c1;e03b1;e04a1;k52;").slotThen(0, 5), 135);
        Due.is("a name of another inode", quiet("k12;k21;e00b1;e10a2;k52;").slotThen(0, 1), 130);
        Due.is("a name of an emptied slot", quiet("e00a0;k52;").slotThen(0, 0), 130);
        VolumeInFivePasses many = quiet("k52;k62;k72;k82;");
        for (int s = 0; s < 4; s++) {
            Due.is("one by one", many.slotThen(0, s), 26 * (5 + s) + s);
        }
    }

    /** "if there is no such SLOT, it is LOST: 11", and what was in it is without an ENTRY. */
    private static void lostDirectories() {
        String full = "k11;e00a1;e01b1;e02c1;e03d1;";
        asks(full + "k22;", "11,2,0");
        asks(full + "k22;k32;e20a3;", "11,2,0 11,3,0");
        asks(full + "k92;i3d09;e90a3;", "11,9,0 11,3,0");
        asks(full + "k22;k32;e20a3;e30a2;", "9,2,3 11,2,0 11,3,0");
        asks(full + "k22;k33;e20a3;", "11,2,0 13,3,6");
        asks(full + "k22;e20a1;", "11,2,0");
        VolumeInFivePasses x = Told.made(full + "k22;e20a1;u0;u1;");
        Due.is("links of what was in it", x.then(1, 1), 4);
        asks("k11;e00a1;e01b1;e02c1;k22;k32;k42;", "10,2,3 11,3,0 11,4,0");
    }

    /** "it is NONE, POINTERS none, SLOTS empty, LINKS, PARENT 0" */
    private static void whatAnInodeLosesByReason11() {
        VolumeInFivePasses x = quiet("k11;e00a1;e01b1;e02c1;e03d1;i9h87;p9023;b2345;e90a1;e95f1;u9;m23;");
        Due.is("lost", x.check(), 1);
        Due.is("lost: kind", x.inode(9, 0), 0);
        Due.is("lost: links, parent", x.links(9, 0, 0), 0);
        Due.is("lost: pointer", x.pointer(9, 0), -9);
        Due.is("lost: slots", x.slot(9, 0) + x.slot(9, 5), -18);
        Due.is("lost: its mark is as it was", x.inode(9, 3), 1);
        Due.is("lost: the byte is as it was", x.block(23, 0), 45);
        Due.is("lost: the block's mark is as it was", x.block(23, 1), 1);
        Told.make(x, "r15;r16;u0;u1;");
        Due.is("the maps are mended then", Told.asked(x), "15,23,0 16,9,0");
    }

    /** "12: PARENT is not the INODE in which the ENTRY to it is (of INODE 0: 0)" */
    private static void parentsOfDirectories() {
        asks("i0d00;", "");
        asks("i0d01;", "12,0,1");
        asks("i0h09;", "12,0,9");
        asks("k12;e00a1;", "");
        asks("i1d01;e00a1;", "12,1,1");
        asks("i9h09;e00a9;", "12,9,9");
        asks("i9d00;i1d09;e00a9;e90a1;", "");
        asks("i9d00;i1d00;e00a9;e90a1;", "12,1,0");
        Due.is("parent 9", quiet("i9d00;i1d00;e00a9;e90a1;").then(1, 2), 9);
        asks("i1f09;i2l09;i3g09;e00a1;e01b2;e02c3;i9n09;", "");
        asks("i5d07;", "10,5,0 12,5,7");
        asks("i1f05;e00a1;e01b1;e02c1;e03d1;i5d07;", "11,5,0");
        asks("i9d08;i8d07;e00a9;e01b8;", "12,8,7 12,9,8");
        asks("i0f05;", "1,0,0");
    }

    // ---- pass 4 ----

    /** "13: no DIRECTORY, not NONE, no ENTRY is to it: ATTACHED likewise (PLACE the SLOT ..)" */
    private static void filesWithoutEntry() {
        for (int kind = 0; kind <= 5; kind++) {
            asks("k3" + kind + ";", kind == 0 ? "" : kind == 2 || kind == 5 ? "10,3,0" : "13,3,0");
        }
        asks("k11;k21;e00b1;", "13,2,1");
        Due.is("the least name", quiet("k11;k21;e00b1;").slotThen(0, 1), 52);
        asks("k11;k21;k31;e00a1;e01b2;e02c3;k94;", "13,9,3");
        asks("k12;k91;e00a1;e13z9;", "");
        asks("k91;k82;k71;", "10,8,0 13,7,1 13,9,2");
        asks("k11;e15a1;e00a0;", "6,0,0 5,1,5 13,1,0");
        asksAll("k11;u0;u1;", "13,1,0 14,1,0");
        asksAll("i1f10;u0;u1;", "13,1,0");
        asksAll("i1f90;u0;u1;", "13,1,0 14,1,9");
    }

    /** "PLACE 6 if it is LOST so, by this REASON" */
    private static void lostFiles() {
        String three = "k11;e00a1;e01b1;e02c1;";
        asks(three + "k21;k33;k44;", "13,2,3 13,3,6 13,4,6");
        asks(three + "e03d1;k21;", "13,2,6");
        asks("k05;k11;e00a1;e01b1;e02c1;e03d1;e04e1;k21;k31;", "13,2,5 13,3,6");
        VolumeInFivePasses x = Told.made("i1f40;e00a1;e01b1;e02c1;e03d1;i9f98;p9023;p9122;u0;u1;u9;m22;m23;");
        Due.is("lost, links 0 and no more to count", Told.asked(x), "13,9,6 15,22,0 15,23,0 16,9,0");
        x.check();
        Due.is("lost: kind", x.inode(9, 0), 0);
        Due.is("lost: links, parent", x.links(9, 0, 0), 0);
        Due.is("lost: pointers", x.pointer(9, 0) + x.pointer(9, 1), -18);
    }

    /** Inode 0 (a HOME) has 2 (a HOME) and file 1, each in all slots that are left: so many entries to file 1. */
    private static VolumeInFivePasses entries(int many) {
        VolumeInFivePasses x = Told.made("k05;i2h10;k11;u0;u1;u2;e00z2;");
        for (int i = 0; i < many; i++) {
            if (i < 5) {
                x.enters(0, i + 1, i, 1);
            } else {
                x.enters(2, i - 5, i, 1);
            }
        }
        return x;
    }

    /** "14: LINKS are not how many ENTRIES are to it (9 at most)" */
    private static void linksUpToNine() {
        for (int many = 1; many <= 11; many++) {
            VolumeInFivePasses x = entries(many);
            Due.is("links of " + many + " entries", x.then(1, 1), Math.min(9, many));
            Due.is("asked by " + many + " entries", Told.asked(x), "14,1,0");
            for (int links = 1; links <= 9; links++) {
                x.links(1, links, 0);
                Due.is("links " + links + " by " + many + " entries", x.questions(14), links == Math.min(9, many) ? 0 : 1);
            }
        }
    }

    /** All INODES, INODE 0 and those that are NONE, too: no ENTRIES are to them. */
    private static void linksOfAll() {
        asksAll("u0;i0d10;", "14,0,1");
        asksAll("u0;i0d90;", "14,0,9");
        asksAll("u0;i9n10;", "14,9,1");
        asksAll("u0;u1;i1d00;e00a1;", "14,1,0");
        asksAll("u0;u1;i1d10;e00a1;", "");
        asksAll("u0;u1;u2;i1f10;i2f10;", "13,1,0 13,2,1");
        asksAll("u0;u1;u2;i1f20;i2f20;", "13,1,0 14,1,2 13,2,1 14,2,2");
        VolumeInFivePasses x = Told.made("u0;i9n99;");
        x.check();
        Due.is("links of a none, its parent stays", x.links(9, 0, 0), 9);
    }

    // ---- pass 5 ----

    /** "15: MARKED, though no POINTER is to it, or the other way round" */
    private static void mapOfBlocks() {
        asksAll("u0;m00;", "15,0,0");
        asksAll("u0;m23;", "15,23,0");
        asksAll("u0;p0000;", "15,0,0");
        asksAll("u0;p0023;", "15,23,0");
        asksAll("u0;p0000;m00;", "");
        asksAll("u0;p0023;m23;", "");
        asksAll("u0;p0024;m23;", "3,0,0 15,23,0");
        asksAll("u0;p0105;m05;", "2,0,1 15,5,0");
        asksAll("u0;u1;i1f10;e00a1;p0005;p1005;m05;", "4,1,0 15,0,0");
        VolumeInFivePasses x = Told.made("u0;p0023;m00;");
        Due.is("both ways", Told.asked(x), "15,0,0 15,23,0");
        x.check();
        Due.is("both ways, mended", x.count(3), 1 << 23);
        StringBuilder all = new StringBuilder("u0;");
        StringBuilder due = new StringBuilder();
        for (int b = 0; b < 24; b++) {
            all.append('m').append(String.valueOf(100 + b).substring(1)).append(';');
            due.append(b == 0 ? "" : " ").append("15,").append(b).append(",0");
        }
        asksAll(all.toString(), due.toString());
    }

    /** "16: MARKED, though NONE, or the other way round: likewise" */
    private static void mapOfInodes() {
        asksAll("", "16,0,0");
        asksAll("u0;", "");
        asksAll("u0;u9;", "16,9,0");
        asksAll("u0;u9;i9f10;e00a9;", "");
        asksAll("u0;i9f10;e00a9;", "16,9,0");
        asksAll("u0;u1;u2;u3;u4;u5;u6;u7;u8;u9;",
            "16,1,0 16,2,0 16,3,0 16,4,0 16,5,0 16,6,0 16,7,0 16,8,0 16,9,0");
        VolumeInFivePasses x = Told.made("u9;");
        x.check();
        Due.is("mended", x.count(4), 1);
        asksAll("k00;", "1,0,0 16,0,0");
        asksAll("k00;u0;", "1,0,0");
    }

    // ---- what is refused, none, all ----

    /** "A REASON that is REFUSED (..) is asked no QUESTION, nothing is mended for it", each by itself. */
    private static void refusedReasons() {
        String all = "i1d35;i2f90;e00a1;e01b2;p0005;p2005;u1;u2;m05;";
        asksAll(all, "4,2,0 12,1,5 14,1,3 14,2,9 15,0,0 16,0,0");
        asksAll("r04;" + all, "12,1,5 14,1,3 14,2,9 16,0,0");
        asksAll("r12;" + all, "4,2,0 14,1,3 14,2,9 15,0,0 16,0,0");
        asksAll("r14;" + all, "4,2,0 12,1,5 15,0,0 16,0,0");
        asksAll("r15;" + all, "4,2,0 12,1,5 14,1,3 14,2,9 16,0,0");
        asksAll("r16;" + all, "4,2,0 12,1,5 14,1,3 14,2,9 15,0,0");
        asksAll("r04;r12;r14;r15;r16;" + all, "");
        asksAll("r04;r04;" + all, "4,2,0 12,1,5 14,1,3 14,2,9 15,0,0 16,0,0");
        VolumeInFivePasses x = Told.made("r04;r12;r14;r15;r16;" + all + "b0542;");
        String before = Told.volume(x);
        Due.is("all refused", x.check(), 0);
        Due.is("all refused: as it was", Told.volume(x), before);
        asks("r04;p0105;p0024;k11;e00a1;p1005;p1105;", "3,0,0 2,0,1");
    }

    /** As many questions as there can be of a volume all wrong, and none of a sound one. */
    private static void soundAndFullest() {
        VolumeInFivePasses x = Told.made("c;");
        Due.is("sound", x.check(), 0);
        StringBuilder text = new StringBuilder("i0h99;");
        for (int i = 1; i < 10; i++) {
            text.append('i').append(i).append(i <= 6 ? "h99;" : "h00;").append(i > 6 ? "u" + i + ";" : "");
        }
        for (int i = 0; i < 10; i++) {
            for (int p = 0; p < 3; p++) {
                text.append('p').append(i).append(p).append("98;");
            }
            for (int s = 0; s < 6; s++) {
                text.append('e').append(i).append(s).append("a0;");
            }
        }
        for (int b = 10; b < 34; b++) {
            text.append('m').append(String.valueOf(90 + b).substring(1)).append(';');
        }
        VolumeInFivePasses y = Told.made(text.toString());
        int[] due = {147, 0, 20, 10, 0, 0, 60, 0, 0, 0, 6, 3, 7, 0, 7, 24, 10};
        for (int reason = 0; reason <= 16; reason++) {
            Due.is("fullest: reason " + reason, y.questions(reason), due[reason]);
        }
        Due.is("fullest: the last", y.question(146, 0) * 100 + y.question(146, 1), 1609);
        Due.is("fullest: no more", y.question(147, 0), -1);
        Due.is("fullest, checked", y.check(), 147);
        Due.is("fullest, sound then", y.sound(), 1);
    }
}

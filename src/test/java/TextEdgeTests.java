import java.util.ArrayList;
import java.util.List;

/** The letters of a VOLUME: each sentence of the document that names an edge, with a test of its own. */
public final class TextEdgeTests {
    /** One of each statement that can stand on a new object. */
    private static final String[] STATEMENTS = {"i1f00;", "p0000;", "e00a0;", "x00;", "b0000;", "m00;", "u0;", "c;"};

    private TextEdgeTests() {
    }

    public static void main(String[] args) {
        letters();
        atLeastOneStatement();
        theEndIfSomethingLacks();
        theFirstWrongLetter();
        kinds();
        digits();
        names();
        linksAndParent();
        pointers();
        slots();
        blocks();
        toldAgain();
        ofSeveralFaults();
        withAFaultNothing();
        theLettersAreNoMore();
        ninetySixLetters();
        checksInAText();
        Due.end("TextEdgeTests");
    }

    /** "A letter (0 .. 255) comes: how many there are." */
    private static void letters() {
        VolumeInFivePasses x = new VolumeInFivePasses();
        Due.is("no letters", x.count(7), 0);
        Due.is("the least letter", x.letter(0), 1);
        Due.is("the greatest letter", x.letter(255), 2);
        Due.is("below the least", x.letter(-1), -4);
        Due.is("above the greatest", x.letter(256), -6);
        Due.is("refused ones do not come", x.count(7), 2);
        Due.is("letter 0 fits nowhere", x.volume(), -1000);
        for (int c = 0; c <= 255; c++) {
            VolumeInFivePasses y = new VolumeInFivePasses();
            y.letter(c);
            boolean begins = "ipexbmuc".indexOf(c) >= 0;
            Due.is("a text of letter " + c, y.volume(), begins ? -1001 : -1000);
        }
    }

    /** "At least one STATEMENT": with no letter at all the end, 0, lacks one. */
    private static void atLeastOneStatement() {
        VolumeInFivePasses x = new VolumeInFivePasses();
        Due.is("no letters", x.volume(), -1000);
        Due.is("no letters again", x.volume(), -1000);
        Due.is("one statement", Told.tell(x, "c;"), 1);
        Due.is("no letters behind one", x.volume(), -1000);
    }

    /** "the place of the first letter with which no VOLUME can go on (the end, if something lacks)" */
    private static void theEndIfSomethingLacks() {
        for (String s : STATEMENTS) {
            for (int length = 0; length < s.length(); length++) {
                Due.is(s.substring(0, length), Told.tell(new VolumeInFivePasses(), s.substring(0, length)), -1000 - length);
                if (length > 0) {
                    Due.is("c;" + s.substring(0, length),
                        Told.tell(new VolumeInFivePasses(), "c;" + s.substring(0, length)), -1002 - length);
                }
            }
            Due.is(s, Told.tell(new VolumeInFivePasses(), s), 1);
            Due.is("c;" + s, Told.tell(new VolumeInFivePasses(), "c;" + s), 2);
        }
    }

    /** At each place of each statement a letter that cannot stand there, and more letters behind it. */
    private static void theFirstWrongLetter() {
        for (String s : STATEMENTS) {
            for (int at = 0; at < s.length(); at++) {
                for (char c : new char[] {0, ' ', '/', ':', 'A', '`', '{', 255}) {
                    String text = "c;" + s.substring(0, at) + c + s.substring(at);
                    Due.is(text, Told.tell(new VolumeInFivePasses(), text), -1002 - at);
                }
            }
            String twice = s + ";c;";
            Due.is(twice, Told.tell(new VolumeInFivePasses(), twice), -1000 - s.length());
        }
    }

    /** "a letter of a KIND (n f d l g h for 0 .. 5)" */
    private static void kinds() {
        for (int kind = 0; kind <= 5; kind++) {
            VolumeInFivePasses x = Told.of("i7" + "nfdlgh".charAt(kind) + "00;");
            Due.is("kind " + kind, x.inode(7, 0), kind);
        }
        for (char c = 'a'; c <= 'z'; c++) {
            boolean isKind = "nfdlgh".indexOf(c) >= 0;
            Due.is("kind letter " + c, Told.tell(new VolumeInFivePasses(), "i7" + c + "00;"), isKind ? 1 : -1002);
        }
        Due.is("kind by its number", Told.tell(new VolumeInFivePasses(), "i7100;"), -1002);
        Due.is("kind letter that is large", Told.tell(new VolumeInFivePasses(), "i7F00;"), -1002);
    }

    /** "an INODE (a digit)": 0 and 9 are digits, what stands beside them is none. */
    private static void digits() {
        String[] texts = {"i#f00;", "p#000;", "e#0a0;", "x#0;", "u#;"};
        for (String text : texts) {
            for (char c = '/'; c <= ':'; c++) {
                int due = c == '/' || c == ':' ? -1001 : 1;
                Due.is(text + c, Told.tell(new VolumeInFivePasses(), text.replace('#', c)), due);
            }
        }
        VolumeInFivePasses x = Told.of("i0h00;i9h00;u0;u9;");
        Due.is("inodes 0 and 9", x.count(0) * 1000 + x.count(4), 513 * 1000 + 513);
        VolumeInFivePasses e = Told.of("e00a0;e01a9;e90z9;");
        Due.is("entries to 0 and 9", e.slot(0, 0) * 1000 + e.slot(0, 1), 234);
        Due.is("an entry in inode 9", e.slot(9, 0), 259);
        Due.is("entry to /", Told.tell(new VolumeInFivePasses(), "e00a/;"), -1004);
        Due.is("entry to :", Told.tell(new VolumeInFivePasses(), "e00a:;"), -1004);
    }

    /** "a NAME (a letter)", a .. z, told as 0 .. 25 */
    private static void names() {
        for (char c = '_'; c <= '|'; c++) {
            VolumeInFivePasses x = new VolumeInFivePasses();
            boolean isName = c >= 'a' && c <= 'z';
            Due.is("name " + c, Told.tell(x, "e00" + c + "0;"), isName ? 1 : -1003);
            Due.is("name as told " + c, x.slot(0, 0), isName ? c - 'a' : -9);
        }
        Due.is("name A", Told.tell(new VolumeInFivePasses(), "e00A0;"), -1003);
        Due.is("name Z", Told.tell(new VolumeInFivePasses(), "e00Z0;"), -1003);
    }

    /** "LINKS, PARENT (a digit each)" */
    private static void linksAndParent() {
        VolumeInFivePasses x = Told.of("i1n00;i2n90;i3n09;i4n99;");
        int[] due = {0, 90, 9, 99};
        for (int i = 1; i <= 4; i++) {
            Due.is("links and parent of " + i, x.links(i, 0, 0), due[i - 1]);
        }
        Due.is("links /", Told.tell(new VolumeInFivePasses(), "i1n/0;"), -1003);
        Due.is("links :", Told.tell(new VolumeInFivePasses(), "i1n:0;"), -1003);
        Due.is("parent /", Told.tell(new VolumeInFivePasses(), "i1n0/;"), -1004);
        Due.is("parent :", Told.tell(new VolumeInFivePasses(), "i1n0:;"), -1004);
        VolumeInFivePasses y = Told.of("i1h35;p1005;e10a2;u1;i1n00;");
        Due.is("pointers stay behind an i", y.pointer(1, 0), 5);
        Due.is("slots stay behind an i", y.slot(1, 0), 52);
        Due.is("marks stay behind an i", y.inode(1, 3), 1);
    }

    /** "a POINTER (a digit each), a number (2 digits; 99: none)"; "no such POINTER" */
    private static void pointers() {
        for (int p = 0; p <= 9; p++) {
            VolumeInFivePasses x = new VolumeInFivePasses();
            Due.is("pointer " + p, Told.tell(x, "c;p9" + p + "23;"), p <= 2 ? 2 : -2002);
            Due.is("pointer " + p + " has come", x.count(2), p <= 2 ? 1 << 23 : 0);
        }
        VolumeInFivePasses x = Told.of("p0000;p0198;p0223;");
        Due.is("to 0", x.pointer(0, 0), 0);
        Due.is("to 98", x.pointer(0, 1), 98);
        Due.is("to 99", Told.tell(x, "p0099;p0199;"), 2);
        Due.is("from 0 to none", x.pointer(0, 0), -9);
        Due.is("from 98 to none", x.pointer(0, 1), -9);
        Due.is("another stays", x.pointer(0, 2), 23);
        Due.is("one digit", Told.tell(new VolumeInFivePasses(), "p009;"), -1004);
        Due.is("three digits", Told.tell(new VolumeInFivePasses(), "p00099;"), -1005);
    }

    /** "no such SLOT", of an entry and of an empty one */
    private static void slots() {
        for (int s = 0; s <= 9; s++) {
            VolumeInFivePasses x = new VolumeInFivePasses();
            Due.is("entry in slot " + s, Told.tell(x, "c;e9" + s + "z9;"), s <= 5 ? 2 : -2002);
            Due.is("entry in slot " + s + " has come", x.inode(9, 6), s <= 5 ? 1 : 0);
            Due.is("slot " + s + " empty", Told.tell(x, "m00;x9" + s + ";"), s <= 5 ? 2 : -2004);
            Due.is("slot " + s + " is empty", x.inode(9, 6), 0);
        }
        Due.is("an empty slot emptied", Told.tell(new VolumeInFivePasses(), "x00;x05;"), 2);
    }

    /** "no such BLOCK"; "b" a BLOCK, BYTE (2 digits each) */
    private static void blocks() {
        for (int b = 0; b <= 99; b++) {
            String pair = String.valueOf(100 + b).substring(1);
            VolumeInFivePasses x = new VolumeInFivePasses();
            Due.is("byte of " + b, Told.tell(x, "c;b" + pair + "99;"), b <= 23 ? 2 : -2002);
            Due.is("byte of " + b + " has come", b <= 23 ? x.block(b, 0) : 99, 99);
            Due.is("mark of " + b, Told.tell(x, "m" + pair + ";"), b <= 23 ? 1 : -2000);
            Due.is("mark of " + b + " has come", x.count(3), b <= 23 ? 1 << b : 0);
        }
        VolumeInFivePasses x = Told.of("b0099;b2399;b0000;");
        Due.is("the least byte", x.block(0, 0), 0);
        Due.is("the greatest byte", x.block(23, 0), 99);
    }

    /** "MARKED, or, told again, not" */
    private static void toldAgain() {
        VolumeInFivePasses x = new VolumeInFivePasses();
        Due.is("told", Told.tell(x, "m00;m23;u0;u9;"), 4);
        Due.is("told: blocks", x.count(3), 1 << 23 | 1);
        Due.is("told: inodes", x.count(4), 1 << 9 | 1);
        Due.is("again in another text", Told.tell(x, "m23;u9;"), 2);
        Due.is("again: blocks", x.count(3), 1);
        Due.is("again: inodes", x.count(4), 1);
        Due.is("twice in one text", Told.tell(x, "m07;u7;m07;u7;"), 4);
        Due.is("twice: blocks", x.count(3), 1);
        Due.is("twice: inodes", x.count(4), 1);
        Due.is("thrice in one text", Told.tell(x, "m07;u7;m07;u7;m07;u7;"), 6);
        Due.is("thrice: blocks", x.count(3), 1 << 7 | 1);
        Due.is("thrice: inodes", x.count(4), 1 << 7 | 1);
    }

    /** Kind 1 "else kind 2": the grammar of all of it first; "the first STATEMENT" of several. */
    private static void ofSeveralFaults() {
        String[] texts = {
            "m24;z", "-1004", "m24;c", "-1005", "m24;", "-2000", "m24;m25;", "-2000", "m23;m25;m24;", "-2004",
            "p0300;e06a0;x06;b2400;m24;", "-2000", "c;e06a0;p0300;", "-2002", "c;c;x06;p0300;", "-2004",
            "c;c;c;b2400;m24;", "-2006", "c;c;c;c;m24;x06", "-1015", "u0;u1;u2;u3;u4;u5;u6;u7;u8;u9;m99;", "-2030",
        };
        for (int i = 0; i < texts.length; i += 2) {
            Due.is(texts[i], Told.tell(new VolumeInFivePasses(), texts[i]), Integer.parseInt(texts[i + 1]));
        }
    }

    /** "Without FAULT all of it comes, with one nothing." */
    private static void withAFaultNothing() {
        String good = "i0h11;i1f23;p1005;e00a1;b0542;m05;u1;";
        List<String> faults = new ArrayList<>(List.of("m24;", "p1399;", "e16a0;", "x06;", "b2400;", "c", "z", "p1", "c;;"));
        VolumeInFivePasses fresh = new VolumeInFivePasses();
        for (String fault : faults) {
            VolumeInFivePasses x = new VolumeInFivePasses();
            Due.is(good + "c;" + fault + " is at fault", Told.tell(x, good + "c;" + fault) <= -1000 ? 1 : 0, 1);
            Due.is(good + "c;" + fault, Told.volume(x), Told.volume(fresh));
        }
        VolumeInFivePasses x = new VolumeInFivePasses();
        Due.is(good, Told.tell(x, good), 7);
        Due.is("all of it: inodes", x.inode(0, 0) * 1000 + x.inode(1, 0) * 100 + x.inode(1, 1) * 10 + x.inode(1, 2), 5123);
        Due.is("all of it: pointer, entry", x.pointer(1, 0) * 100 + x.slot(0, 0), 526);
        Due.is("all of it: byte", x.block(5, 0), 42);
        Due.is("all of it: marks", x.count(3) * 100 + x.count(4), 32 * 100 + 2);
    }

    /** "The letters become a VOLUME, and are no more (with a FAULT neither)" */
    private static void theLettersAreNoMore() {
        VolumeInFivePasses x = new VolumeInFivePasses();
        Told.tell(x, "c;");
        Due.is("no letters behind a volume", x.count(7), 0);
        Told.tell(x, "c;z");
        Due.is("no letters behind a fault of kind 1", x.count(7), 0);
        Told.tell(x, "m24;");
        Due.is("no letters behind a fault of kind 2", x.count(7), 0);
        Due.is("the next begins anew", x.letter('u'), 1);
        x.letter('3');
        x.letter(';');
        Due.is("the next stands by itself", x.volume(), 1);
        Due.is("the next has come", x.count(4) & 8, 8);
    }

    /** "told in letters, one by one (96 at most)" */
    private static void ninetySixLetters() {
        VolumeInFivePasses x = new VolumeInFivePasses();
        String most = "u0;".repeat(31) + "u7;";
        Due.is("96 letters", Told.tell(x, most), 32);
        Due.is("the first and the last of them", x.count(4), 1 << 7 | 1);
        Due.is("96 letters, the last wrong", Told.tell(x, "u0;".repeat(31) + "u7:"), -1095);
        Due.is("96 letters, the last statement wrong", Told.tell(x, "c;".repeat(46) + "m24;"), -2092);
        Due.is("96 letters, the end lacks", Told.tell(x, "c;".repeat(47) + "u7"), -1096);
        Due.is("a 97th does not come", Told.tell(x, "c;".repeat(47) + "u7;"), -1096);
        Due.is("95 letters, the end lacks", Told.tell(x, "c;".repeat(47) + "u"), -1095);
        Due.is("48 statements", Told.tell(x, "c;".repeat(48)), 48);
    }

    /** "c": a CHECK, of what stands ahead of it, with the reasons that are refused. */
    private static void checksInAText() {
        VolumeInFivePasses x = new VolumeInFivePasses();
        Due.is("first of all", Told.tell(x, "c;p0100;"), 2);
        Due.is("first of all: behind it nothing is mended", x.pointer(0, 1), 0);
        Due.is("first of all: ahead of it", x.count(4), 1);
        Due.is("last of all", Told.tell(x, "p0201;c;"), 2);
        Due.is("last of all: mended", x.pointer(0, 1) + x.pointer(0, 2), -18);
        x.refuses(16);
        Due.is("refused", Told.tell(x, "i1f00;c;"), 2);
        Due.is("refused: not mended", x.count(4), 1);
        Due.is("refused: another is mended", x.slot(0, 0), 26);
    }
}

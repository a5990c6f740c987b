/** Volumes for the tests, told in letters or made by calls, and what a check would ask of them. */
final class Told {
    private Told() {
    }

    static VolumeInFivePasses of(String text) {
        VolumeInFivePasses x = new VolumeInFivePasses();
        tell(x, text);
        return x;
    }

    /** Links and maps are not asked for: less to read. */
    static VolumeInFivePasses quiet(String text) {
        VolumeInFivePasses x = new VolumeInFivePasses();
        make(x, "r14;r15;r16;");
        tell(x, text);
        return x;
    }

    static int tell(VolumeInFivePasses x, String text) {
        for (int i = 0; i < text.length(); i++) {
            x.letter(text.charAt(i));
        }
        return x.volume();
    }

    static VolumeInFivePasses made(String text) {
        VolumeInFivePasses x = new VolumeInFivePasses();
        make(x, text);
        return x;
    }

    /** Statements by calls, a call or two each, of any length together; "k" is a kind alone, "r" a reason refused. */
    static void make(VolumeInFivePasses x, String text) {
        for (String s : text.isEmpty() ? new String[0] : text.split(";")) {
            switch (s.charAt(0)) {
                case 'i':
                    x.kind(digit(s, 1), "nfdlgh".indexOf(s.charAt(2)));
                    x.links(digit(s, 1), digit(s, 3), digit(s, 4));
                    break;
                case 'k':
                    x.kind(digit(s, 1), digit(s, 2));
                    break;
                case 'p':
                    x.points(digit(s, 1), digit(s, 2), pair(s, 3));
                    break;
                case 'e':
                    x.enters(digit(s, 1), digit(s, 2), s.charAt(3) - 'a', digit(s, 4));
                    break;
                case 'x':
                    x.empties(digit(s, 1), digit(s, 2));
                    break;
                case 'b':
                    x.writes(pair(s, 1), pair(s, 3));
                    break;
                case 'm':
                    x.marks(0, pair(s, 1));
                    break;
                case 'u':
                    x.marks(1, digit(s, 1));
                    break;
                case 'r':
                    x.refuses(pair(s, 1));
                    break;
                default:
                    x.check();
                    break;
            }
        }
    }

    private static int digit(String s, int at) {
        return s.charAt(at) - '0';
    }

    private static int pair(String s, int at) {
        return 10 * digit(s, at) + digit(s, at + 1);
    }

    /** All questions in mind: reason, who, place. */
    static String asked(VolumeInFivePasses x) {
        StringBuilder told = new StringBuilder();
        int most = x.questions(0);
        for (int i = 0; i < most; i++) {
            told.append(i == 0 ? "" : " ").append(x.question(i, 0)).append(',');
            told.append(x.question(i, 1)).append(',').append(x.question(i, 2));
        }
        return told.toString();
    }

    /** All that the calls tell of the volume itself: 146 of them. */
    static String volume(VolumeInFivePasses x) {
        StringBuilder told = new StringBuilder();
        for (int i = 0; i < 10; i++) {
            told.append('i').append(x.inode(i, 0)).append(x.inode(i, 1)).append(x.inode(i, 2));
            for (int p = 0; p < 3; p++) {
                told.append(" p").append(x.pointer(i, p));
            }
            for (int s = 0; s < 6; s++) {
                told.append(" e").append(x.slot(i, s));
            }
            told.append('\n');
        }
        for (int b = 0; b < 24; b++) {
            told.append(" b").append(x.block(b, 0));
        }
        return told.append(" m").append(x.count(3)).append(" u").append(x.count(4)).toString();
    }
}

import java.lang.reflect.Method;
import java.util.Arrays;
import java.util.Map;
import java.util.Set;
import java.util.TreeMap;
import java.util.TreeSet;

/**
 * What each call changes, and that all else is as it was: "KIND becomes another one, all else as it is", "In mind",
 * "(it stays)". An object is told whole before and behind each call, its row, letters and image, too.
 */
public final class ChangeTests {
    /** Then, when the image was taken; and what came behind it. Links behind a check: 0 1 2 1. */
    private static final String IMAGE =
        "i0h98;i1d57;i2f13;i3l20;i4g00;e00a1;e01z2;e35b9;e11c2;e02c3;p0005;p1105;p9224;b0542;b2399;m05;m23;u0;u5;u9;r12;";
    private static final String NOW = "i6f31;p6223;e03c6;x01;e12d2;b0043;m00;u1;r16;";
    private static final int[] ROW = {0, 1, 2, 1};
    private static final String TEXT = "m07;";

    /** A call; what it changes. */
    private static final String[][] CHANGES = {
        {"letter 99", "letters, volume, block 7 marked"},
        {"letter 0", "letters, volume, block 7 marked"},
        {"volume", "letters, volume"},
        {"kind 3 5", "kind 3"}, {"kind 0 1", "kind 0"}, {"kind 9 2", "kind 9"}, {"kind 6 0", "kind 6"}, {"kind 6 1", ""},
        {"points 0 0 99", "pointer 0 0"}, {"points 0 0 23", "pointer 0 0"}, {"points 9 2 98", "pointer 9 2"},
        {"points 5 1 5", "pointer 5 1"}, {"points 5 1 99", ""}, {"points 0 0 5", ""},
        {"enters 0 0 25 9", "slot 0 0"}, {"enters 9 5 0 0", "slot 9 5"}, {"enters 0 0 0 1", ""},
        {"empties 0 0", "slot 0 0"}, {"empties 3 5", "slot 3 5"}, {"empties 9 0", ""},
        {"links 1 5 6", "parent 1"}, {"links 1 6 7", "links 1"}, {"links 9 9 9", "links 9, parent 9"}, {"links 9 0 0", ""},
        {"marks 0 0", "block 0 marked"}, {"marks 0 23", "block 23 marked"}, {"marks 1 9", "inode 9 marked"},
        {"marks 1 0", "inode 0 marked"}, {"writes 5 41", "byte 5"}, {"writes 0 99", "byte 0"}, {"writes 23 99", ""},
        {"refuses 4", "refused"}, {"refuses 16", "refused"}, {"row 0", "row, judge"}, {"row 1", "row"},
        {"clear", "row"}, {"judge", "row"},
    };

    /** A statement of a text; what it changes. */
    private static final String[][] STATEMENTS = {
        {"i7h98;", "kind 7, links 7, parent 7"}, {"i6n31;", "kind 6"}, {"i0h08;", "links 0"}, {"i0h90;", "parent 0"},
        {"p0099;", "pointer 0 0"}, {"p9200;", "pointer 9 2"}, {"e95z0;", "slot 9 5"}, {"x00;", "slot 0 0"}, {"x90;", ""},
        {"b2300;", "byte 23"}, {"b0044;", "byte 0"}, {"m00;", "block 0 marked"}, {"m22;", "block 22 marked"},
        {"u9;", "inode 9 marked"}, {"u8;", "inode 8 marked"}, {"u8;u8;", ""}, {"u8;z", ""}, {"u8;m24;", ""}, {"", ""},
    };

    /** Calls that only ask: the greatest numbers that each argument is given, from 0 on. */
    private static final String[] ASKING = {
        "inode 9 6", "pointer 9 2", "slot 9 5", "block 23 2", "questions 16", "question 24 2", "reasons", "sound", "then 9 5",
        "slotThen 9 5", "pointerThen 9 2", "largest 9", "second", "loses 2", "mend 1", "worst", "shared 1", "damage 10 20 1",
        "mean 1", "whatIs 9 1", "lots 20 9 1", "count 20",
    };

    private ChangeTests() {
    }

    public static void main(String[] args) throws Exception {
        for (String[] change : CHANGES) {
            String[] words = change[0].split(" ");
            int[] numbers = numbers(words);
            VolumeInFivePasses x = object(TEXT);
            answer(x, words[0], numbers);
            same(change[0], told(x), told(object(TEXT)), change[1], words[0].matches("row|clear|judge"));
        }
        for (String[] statement : STATEMENTS) {
            VolumeInFivePasses x = object("");
            Told.tell(x, statement[0]);
            same(statement[0], told(x), told(object("")), statement[1], false);
        }
        Map<String, Integer> before = told(object(TEXT));
        Due.is("the row is as it is due", before.get("judge"), -9);
        Due.is("questions that can be asked for", object(TEXT).questions(0) >= 10 ? 1 : 0, 1);
        for (String asking : ASKING) {
            asksOnly(asking, before);
        }
        theImageIsAsItWas();
        aCheckChangesTheVolumeAlone();
        Due.end("ChangeTests");
    }

    private static int[] numbers(String[] words) {
        int[] numbers = new int[words.length - 1];
        for (int i = 0; i < numbers.length; i++) {
            numbers[i] = Integer.parseInt(words[i + 1]);
        }
        return numbers;
    }

    private static VolumeInFivePasses object(String text) {
        VolumeInFivePasses x = new VolumeInFivePasses();
        Told.make(x, IMAGE);
        x.image();
        Told.make(x, NOW);
        for (int v : ROW) {
            x.row(v);
        }
        for (int i = 0; i < text.length(); i++) {
            x.letter(text.charAt(i));
        }
        return x;
    }

    private static long answer(VolumeInFivePasses x, String name, int[] numbers) throws Exception {
        Class<?>[] types = new Class<?>[numbers.length];
        Object[] values = new Object[numbers.length];
        for (int i = 0; i < numbers.length; i++) {
            types[i] = int.class;
            values[i] = numbers[i];
        }
        Method call = VolumeInFivePasses.class.getMethod(name, types);
        return ((Number) call.invoke(x, values)).longValue();
    }

    /** Each thing by its name: as it is now, then by the row, the letters, the image. */
    private static Map<String, Integer> told(VolumeInFivePasses x) {
        Map<String, Integer> told = new TreeMap<>();
        volume(x, told, "");
        told.put("row", x.count(6));
        told.put("letters", x.count(7));
        for (int what = 11; what <= 16; what++) {
            told.put("refusals " + what, x.count(what));
        }
        told.put("judge", x.judge());
        told.put("volume", x.volume());
        told.put("block 7 marked", x.block(7, 1));
        told.put("on", x.on());
        volume(x, told, "image: ");
        return told;
    }

    private static void volume(VolumeInFivePasses x, Map<String, Integer> told, String when) {
        for (int i = 0; i < 10; i++) {
            told.put(when + "kind " + i, x.inode(i, 0));
            told.put(when + "links " + i, x.inode(i, 1));
            told.put(when + "parent " + i, x.inode(i, 2));
            told.put(when + "inode " + i + " marked", x.inode(i, 3));
            for (int p = 0; p < 3; p++) {
                told.put(when + "pointer " + i + " " + p, x.pointer(i, p));
            }
            for (int s = 0; s < 6; s++) {
                told.put(when + "slot " + i + " " + s, x.slot(i, s));
            }
        }
        for (int b = 0; b < 24; b++) {
            told.put(when + "byte " + b, x.block(b, 0));
            if (b != 7) {
                told.put(when + "block " + b + " marked", x.block(b, 1));
            }
        }
        told.put(when + "refused", x.count(5));
    }

    /** A volume that changes may have other links behind a check: then what JUDGED answers is not asked. */
    private static void same(String call, Map<String, Integer> got, Map<String, Integer> before, String due, boolean isJudged) {
        Set<String> changed = new TreeSet<>();
        for (String thing : before.keySet()) {
            if (!got.get(thing).equals(before.get(thing)) && (isJudged || !thing.equals("judge"))) {
                changed.add(thing);
            }
        }
        Set<String> wanted = new TreeSet<>(Arrays.asList(due.isEmpty() ? new String[0] : due.split(", ")));
        Due.is("changed by " + call, changed.toString(), wanted.toString());
    }

    /** In every mix; a few of them each on one object, as an object has no more than 512 calls. */
    private static void asksOnly(String asking, Map<String, Integer> before) throws Exception {
        String[] words = asking.split(" ");
        int[] most = numbers(words);
        int mixes = 1;
        for (int number : most) {
            mixes *= number + 1;
        }
        VolumeInFivePasses x = object(TEXT);
        for (int mix = 0; mix < mixes; mix++) {
            int[] numbers = new int[most.length];
            int left = mix;
            for (int i = 0; i < most.length; i++) {
                numbers[i] = left % (most[i] + 1);
                left /= most[i] + 1;
            }
            answer(x, words[0], numbers);
            if (mix % 20 == 19 || mix == mixes - 1) {
                Map<String, Integer> got = told(x);
                for (int what = 11; what <= 16; what++) {
                    got.put("refusals " + what, 0);
                }
                same(asking, got, before, "", true);
                x = object(TEXT);
            }
        }
    }

    /** A CHECK, ON and other calls change the volume, not the image: ON from it is the same ever again. */
    private static void theImageIsAsItWas() {
        VolumeInFivePasses x = object(TEXT);
        x.check();
        x.on();
        Told.make(x, "i0n00;i9h99;x00;p0099;b0511;m05;u0;r12;c;");
        asItWas("behind a check and on", told(x), told(object(TEXT)), "image: .*|on");
    }

    /** "A CHECK mends": the volume alone, by the call as by the statement. */
    private static void aCheckChangesTheVolumeAlone() {
        String but = "image: .*|on|row|letters|judge|volume|refused|refusals .*";
        VolumeInFivePasses x = object(TEXT);
        Due.is("a check asks", x.check() >= 10 ? 1 : 0, 1);
        asItWas("behind a check", told(x), told(object(TEXT)), but);
        VolumeInFivePasses y = object("");
        Due.is("a check that is told", Told.tell(y, "c;"), 1);
        asItWas("behind a check that is told", told(y), told(object("")), but);
    }

    private static void asItWas(String when, Map<String, Integer> got, Map<String, Integer> due, String things) {
        for (String thing : due.keySet()) {
            if (thing.matches(things)) {
                Due.is(when + ", " + thing, got.get(thing), due.get(thing));
            }
        }
    }
}

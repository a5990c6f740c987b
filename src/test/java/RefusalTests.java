import java.lang.reflect.Method;
import java.util.ArrayList;
import java.util.Arrays;
import java.util.List;
import java.util.TreeSet;

/**
 * Every call at the edges of each argument: the last number taken and the first refused on either side, the least and
 * the greatest int, in every mix, so that the first refusal in the document's order is seen where several fit; and
 * that a refused call changes nothing but how many such refusals there were.
 */
public final class RefusalTests {
    /** A call, how many arguments; then in the document's order: an argument, what is taken, the refusal else. */
    private static final String[] FACE = {
        "inode 2 | 0 0..9 -1 | 1 0..6 -2",
        "pointer 2 | 0 0..9 -1 | 1 0..2 -1",
        "slot 2 | 0 0..9 -1 | 1 0..5 -1",
        "block 2 | 0 0..23 -1 | 1 0..2 -2",
        "kind 2 | 0 0..9 -1 | 1 0..5 -2",
        "points 3 | 0 0..9 -1 | 1 0..2 -1 | 2 0.. -4 | 2 ..99 -6",
        "enters 4 | 0 0..9 -1 | 1 0..5 -1 | 3 0..9 -1 | 2 0..25 -2",
        "empties 2 | 0 0..9 -1 | 1 0..5 -1",
        "links 3 | 0 0..9 -1 | 2 0..9 -1 | 1 0.. -4 | 1 ..9 -6",
        "marks 2 | 0 0..1 -2 | 1 0..23 -1 if 0 0 | 1 0..9 -1 if 0 1",
        "writes 2 | 0 0..23 -1 | 1 0.. -4 | 1 ..99 -6",
        "questions 1 | 0 0..16 -2",
        "question 2 | 1 0..2 -2 | 0 0..LAST -1",
        "then 2 | 0 0..9 -1 | 1 0..5 -2",
        "slotThen 2 | 0 0..9 -1 | 1 0..5 -1",
        "pointerThen 2 | 0 0..9 -1 | 1 0..2 -1",
        "largest 1 | 0 0..9 -1",
        "loses 1 | 0 0..2 -2",
        "mend 1 | 0 0..1 -2",
        "shared 1 | 0 0..1 -2",
        "damage 3 | 0 0.. -4 | 1 2.. -4 | 0 ..10 -6 | 1 ..20 -6 | 2 0..1 -2",
        "mean 1 | 0 0..1 -2",
        "whatIs 2 | 0 0..9 -1 | 1 0..1 -2",
        "letter 1 | 0 0.. -4 | 0 ..255 -6",
        "row 1 | 0 0.. -4 | 0 ..99 -6",
        "lots 3 | 0 1.. -4 | 0 ..20 -6 | 2 0..1 -2",
    };

    /** Now, and at the image; with texts and a row begun, so that a change of any of these is seen. */
    private static final String RICH_IMAGE =
        "i1d57;i2f13;i3l20;i4g00;i5h94;e00a1;e01z2;e35b9;p0005;p1105;p9224;b0542;b2399;m05;m23;u0;u5;u9;r12;";
    private static final String RICH_NOW = "i6f00;p6223;e05c6;x00;b0043;m00;u1;r16;";

    private enum State { NEW, RICH, FULL }

    private record Bound(int argument, long least, long greatest, int refusal, int guard, long guarded) {
        boolean isBroken(int[] args) {
            boolean counts = guard < 0 || args[guard] == guarded;
            return counts && (args[argument] < least || args[argument] > greatest);
        }
    }

    private RefusalTests() {
    }

    public static void main(String[] args) throws Exception {
        for (String line : FACE) {
            edges(line, State.NEW);
            edges(line, State.RICH);
        }
        refuses();
        on();
        fullLetters();
        fullRow();
        countRefusesNothing();
        faultsAreNotCounted();
        longs();
        howMany();
        Due.end("RefusalTests");
    }

    private static VolumeInFivePasses object(State state) {
        VolumeInFivePasses x = new VolumeInFivePasses();
        if (state == State.NEW) {
            return x;
        }
        Told.make(x, RICH_IMAGE);
        x.image();
        Told.make(x, RICH_NOW);
        for (int v : new int[] {0, 1, 7}) {
            x.row(v);
        }
        for (int i = 3; i < 32 && state == State.FULL; i++) {
            x.row(i);
        }
        String text = "i5h64;b2398;" + (state == State.FULL ? "c;".repeat(42) : "");
        for (int i = 0; i < text.length(); i++) {
            x.letter(text.charAt(i));
        }
        return x;
    }

    /** All that an object tells, first as it is, then by its row, its letters, its image; but one count of refusals. */
    private static String dump(VolumeInFivePasses x, int but) {
        StringBuilder told = new StringBuilder(Told.volume(x));
        for (int what = 0; what <= 16; what++) {
            told.append(what == 10 - but ? "" : " c" + x.count(what));
        }
        told.append(" judge ").append(x.judge()).append(" volume ").append(x.volume());
        told.append(' ').append(x.inode(5, 1)).append(x.inode(5, 2)).append(' ').append(x.block(23, 0));
        int on = x.on();
        told.append(" on ").append(on);
        return on < 0 ? told.toString() : told.append(Told.volume(x)).append(x.count(5)).toString();
    }

    /** The call is refused so, it is counted once, and all else is as if it had not been. */
    private static void refused(State state, String name, int[] args, int due) throws Exception {
        VolumeInFivePasses x = object(state);
        String told = state + " " + name + Arrays.toString(args);
        int before = x.count(10 - due);
        Due.is(told, answer(x, name, args), due);
        Due.is(told + ", how many refusals", x.count(10 - due), before + 1);
        Due.is(told + ", what it changed", dump(x, due), dump(object(state), due));
    }

    private static void taken(State state, String name, int[] args) throws Exception {
        VolumeInFivePasses x = object(state);
        String told = state + " " + name + Arrays.toString(args);
        long answer = answer(x, name, args);
        Due.is(told + " is taken, not " + answer, answer >= 0 || answer == -9 ? 1 : 0, 1);
        int refusals = 0;
        for (int what = 11; what <= 16; what++) {
            refusals += x.count(what);
        }
        Due.is(told + ", refusals", refusals, 0);
    }

    /** A refusal of a long is told as that of an int. */
    private static long answer(VolumeInFivePasses x, String name, int... args) throws Exception {
        Class<?>[] types = new Class<?>[args.length];
        Object[] values = new Object[args.length];
        for (int i = 0; i < args.length; i++) {
            types[i] = int.class;
            values[i] = args[i];
        }
        Method call = VolumeInFivePasses.class.getMethod(name, types);
        Object answer = call.invoke(x, values);
        if (answer instanceof Long) {
            long number = (Long) answer;
            return number > 4000000000000000000L ? 4000000000000000000L - number : number;
        }
        return (Integer) answer;
    }

    private static void edges(String line, State state) throws Exception {
        String[] parts = line.replace("LAST", String.valueOf(object(state).questions(0) - 1)).split(" \\| ");
        String name = parts[0].split(" ")[0];
        List<Bound> bounds = new ArrayList<>();
        for (int i = 1; i < parts.length; i++) {
            bounds.add(bound(parts[i].split(" ")));
        }
        int[] args = new int[Integer.parseInt(parts[0].split(" ")[1])];
        everyMix(state, name, bounds, args, 0);
    }

    private static Bound bound(String[] words) {
        String range = words[1];
        int dots = range.indexOf("..");
        String least = range.substring(0, dots);
        String greatest = range.substring(dots + 2);
        return new Bound(Integer.parseInt(words[0]), least.isEmpty() ? Integer.MIN_VALUE : Long.parseLong(least),
            greatest.isEmpty() ? Integer.MAX_VALUE : Long.parseLong(greatest), Integer.parseInt(words[2]),
            words.length > 3 ? Integer.parseInt(words[4]) : -1, words.length > 3 ? Long.parseLong(words[5]) : 0);
    }

    private static void everyMix(State state, String name, List<Bound> bounds, int[] args, int at) throws Exception {
        if (at == args.length) {
            int due = 0;
            for (Bound bound : bounds) {
                due = due == 0 && bound.isBroken(args) ? bound.refusal : due;
            }
            if (due == 0) {
                taken(state, name, args);
            } else {
                refused(state, name, args, due);
            }
            return;
        }
        TreeSet<Integer> values = new TreeSet<>(List.of(Integer.MIN_VALUE, -1, 0, Integer.MAX_VALUE));
        for (Bound bound : bounds) {
            if (bound.argument == at) {
                for (long edge : new long[] {bound.least - 1, bound.least, bound.greatest, bound.greatest + 1}) {
                    if (edge == (int) edge) {
                        values.add((int) edge);
                    }
                }
            }
        }
        for (int value : values) {
            args[at] = value;
            everyMix(state, name, bounds, args, at + 1);
        }
    }

    /** "-2 (none of 4, 12, 14, 15, 16)" */
    private static void refuses() throws Exception {
        TreeSet<Integer> all = new TreeSet<>(List.of(Integer.MIN_VALUE, Integer.MAX_VALUE, 1 << 4, 1 << 16));
        for (int reason = -20; reason <= 80; reason++) {
            all.add(reason);
        }
        for (int reason : all) {
            if (List.of(4, 12, 14, 15, 16).contains(reason)) {
                taken(State.RICH, "refuses", new int[] {reason});
            } else {
                refused(State.RICH, "refuses", new int[] {reason}, -2);
            }
        }
    }

    /** "-3 there is none" */
    private static void on() throws Exception {
        refused(State.NEW, "on", new int[0], -3);
        VolumeInFivePasses x = Told.made("i1f35;u1;r04;");
        Due.is("on, no image", x.on(), -3);
        Due.is("on, no image, again", x.on(), -3);
        Due.is("on, no image: counted twice", x.count(13), 2);
        Due.is("on, no image: as it was", x.count(0) * 100 + x.count(4) * 10 + x.inode(1, 1), 323);
        Due.is("on, no image: refused as they were", x.count(5), 1 << 4);
        Due.is("an image then", x.image(), 2);
        Due.is("on, an image", x.on(), 2);
        Due.is("on, an image: no more refusals", x.count(13), 2);
    }

    /** "-6 (255; 96, too)": and -4 is told first. */
    private static void fullLetters() throws Exception {
        for (int c : new int[] {-1, Integer.MIN_VALUE}) {
            refused(State.FULL, "letter", new int[] {c}, -4);
        }
        for (int c : new int[] {0, 'c', 255, 256, Integer.MAX_VALUE}) {
            refused(State.FULL, "letter", new int[] {c}, -6);
        }
        VolumeInFivePasses x = new VolumeInFivePasses();
        for (int i = 1; i <= 95; i++) {
            x.letter("c;".charAt((i + 1) % 2));
        }
        Due.is("the 96th letter", x.letter(';'), 96);
        Due.is("the 97th letter", x.letter('c'), -6);
        Due.is("the 98th letter", x.letter(';'), -6);
        Due.is("96 letters all stand", x.volume(), 48);
        Due.is("the first letter again", x.letter('c'), 1);
        Due.is("the refused ones are counted", x.count(16), 2);
    }

    /** "-6 (99; 32, too)": and -4 is told first. */
    private static void fullRow() throws Exception {
        for (int v : new int[] {-1, Integer.MIN_VALUE}) {
            refused(State.FULL, "row", new int[] {v}, -4);
        }
        for (int v : new int[] {0, 99, 100, Integer.MAX_VALUE}) {
            refused(State.FULL, "row", new int[] {v}, -6);
        }
        VolumeInFivePasses x = new VolumeInFivePasses();
        for (int i = 1; i <= 31; i++) {
            x.row(0);
        }
        Due.is("the 32nd number", x.row(99), 32);
        Due.is("the 33rd number", x.row(0), -6);
        Due.is("32 numbers all stand", x.clear(), 32);
        Due.is("the first number again", x.row(99), 1);
    }

    /** "-9 for another what": no refusal. */
    private static void countRefusesNothing() throws Exception {
        int[] others = {Integer.MIN_VALUE, -16, -1, 8, 9, 10, 17, 18, Integer.MAX_VALUE};
        for (int what : others) {
            VolumeInFivePasses x = object(State.RICH);
            Due.is("count(" + what + ")", x.count(what), -9);
            Due.is("count(" + what + "), what it changed", dump(x, 0), dump(object(State.RICH), 0));
        }
    }

    /** "the FAULT (nothing is counted)" */
    private static void faultsAreNotCounted() {
        for (String text : new String[] {"", "c", "q", "c;p03", "p0300;", "c;m24;"}) {
            VolumeInFivePasses x = Told.of(text);
            for (int what = 11; what <= 16; what++) {
                Due.is("fault of \"" + text + "\", count(" + what + ")", x.count(what), 0);
            }
        }
    }

    /** "Of longs 4000000000000000000 less them" */
    private static void longs() {
        VolumeInFivePasses x = new VolumeInFivePasses();
        Due.is("damage, -4", x.damage(-1, 2, 0), 4000000000000000004L);
        Due.is("damage, -4 of t", x.damage(0, 1, 0), 4000000000000000004L);
        Due.is("damage, -6", x.damage(11, 2, 0), 4000000000000000006L);
        Due.is("damage, -6 of t", x.damage(0, 21, 0), 4000000000000000006L);
        Due.is("damage, -2", x.damage(0, 2, 2), 4000000000000000002L);
        Due.is("mean, -2", x.mean(2), 4000000000000000002L);
        Due.is("they are counted: -2", x.count(12), 2);
        Due.is("they are counted: -4", x.count(14), 2);
        Due.is("they are counted: -6", x.count(16), 2);
    }

    /** "how many there were": each number by itself; none is ever -5. */
    private static void howMany() {
        VolumeInFivePasses x = new VolumeInFivePasses();
        for (int i = 0; i < 100; i++) {
            x.inode(10, 0);
        }
        for (int i = 0; i < 50; i++) {
            x.inode(0, 7);
        }
        for (int i = 0; i < 25; i++) {
            x.on();
        }
        for (int i = 0; i < 12; i++) {
            x.row(-1);
            x.row(100);
        }
        x.image();
        x.on();
        x.clear();
        x.check();
        int[] due = {100, 50, 25, 12, 0, 12};
        for (int i = 0; i < due.length; i++) {
            Due.is("refusals -" + (i + 1), x.count(11 + i), due[i]);
        }
    }
}

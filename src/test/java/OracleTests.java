import java.lang.reflect.Method;
import java.util.ArrayList;
import java.util.Arrays;
import java.util.List;
import java.util.Random;

/** Long runs by a fixed seed, each call on the program and on the oracle, with arguments in and out of their ranges. */
public final class OracleTests {
    private static final int RUNS = 1500;
    private static final int CALLS = 512;

    /** Each call with the least and the greatest number of each argument, and how often it comes. */
    private static final String[] CALL_TABLE = {
        "letter 1 0 255", "volume 1", "inode 2 0 9 0 6", "pointer 2 0 9 0 2", "slot 2 0 9 0 5", "block 2 0 23 0 2",
        "kind 6 0 9 0 5", "points 9 0 9 0 2 0 30", "points 1 0 9 0 2 0 99", "enters 12 0 9 0 5 0 25 0 9",
        "enters 5 0 9 0 5 0 2 0 9", "empties 2 0 9 0 5", "links 4 0 9 0 9 0 9", "marks 4 0 1 0 9", "marks 2 0 0 0 23",
        "writes 4 0 23 0 99", "refuses 1 4 16", "refuses 1 14 16", "check 1", "questions 3 0 16",
        "question 6 0 30 0 2", "reasons 2", "sound 1", "then 8 0 9 0 5", "slotThen 4 0 9 0 5",
        "pointerThen 4 0 9 0 2", "largest 3 0 9", "second 1", "loses 3 0 2", "mend 2 0 1", "worst 1", "shared 2 0 1",
        "damage 1 0 10 2 20 0 1", "mean 2 0 1", "whatIs 3 0 9 0 1", "row 1 0 99", "judge 1", "clear 1",
        "lots 2 1 20 -2147483648 2147483647 0 1", "image 1", "on 1", "count 4 0 17",
    };

    private final Random random;
    private VolumeInFivePasses program;
    private Oracle oracle;
    private final List<String> history = new ArrayList<>();
    private final List<String[]> lot = new ArrayList<>();

    private OracleTests(long seed) {
        random = new Random(seed);
        for (String line : CALL_TABLE) {
            String[] words = line.split(" ");
            for (int i = 0; i < Integer.parseInt(words[1]); i++) {
                lot.add(words);
            }
        }
    }

    public static void main(String[] args) throws Exception {
        OracleTests tests = new OracleTests(20261118);
        for (int run = 0; run < RUNS && Due.wrongOnes() == 0; run++) {
            tests.run(run);
        }
        Due.end("OracleTests");
    }

    private void run(int number) throws Exception {
        program = new VolumeInFivePasses();
        oracle = new Oracle();
        history.clear();
        boolean isWild = number % 5 == 0;
        while (history.size() < CALLS && Due.wrongOnes() == 0) {
            int turn = random.nextInt(40);
            if (turn == 0) {
                tellText();
            } else if (turn == 1) {
                tellRow();
            } else if (turn == 2 && random.nextInt(3) == 0) {
                tellTree();
            } else {
                String[] words = lot.get(random.nextInt(lot.size()));
                int[] args = new int[(words.length - 2) / 2];
                for (int i = 0; i < args.length; i++) {
                    args[i] = argument(Long.parseLong(words[2 + 2 * i]), Long.parseLong(words[3 + 2 * i]), isWild);
                }
                call(words[0], args);
            }
        }
    }

    private int argument(long low, long high, boolean isWild) {
        if (random.nextInt(isWild ? 4 : 60) == 0) {
            long[] edges = {low - 1, high + 1, low - 2, high + 2, Integer.MIN_VALUE, Integer.MAX_VALUE, -9, 99, 100};
            return (int) edges[random.nextInt(edges.length)];
        }
        return (int) (low + Math.floorMod(random.nextLong(), high - low + 1));
    }

    private long call(String name, int... args) throws Exception {
        Class<?>[] types = new Class<?>[args.length];
        Object[] values = new Object[args.length];
        for (int i = 0; i < args.length; i++) {
            types[i] = int.class;
            values[i] = args[i];
        }
        String told = name + Arrays.toString(args).replace('[', '(').replace(']', ')');
        history.add(told);
        Method own = VolumeInFivePasses.class.getMethod(name, types);
        Method other = Oracle.class.getMethod(name, types);
        long got = ((Number) own.invoke(program, values)).longValue();
        long want = ((Number) other.invoke(oracle, values)).longValue();
        Due.is(told, got, want);
        if (got != want) {
            System.out.println("behind: " + history);
        }
        return want;
    }

    /** A text of statements, now and then with a wrong letter in it, or too short. */
    private void tellText() throws Exception {
        StringBuilder text = new StringBuilder();
        int most = 1 + random.nextInt(95);
        while (text.length() < most) {
            text.append(statement());
        }
        if (random.nextInt(4) == 0) {
            text.setCharAt(random.nextInt(text.length()), (char) (random.nextInt(3) == 0 ? random.nextInt(256) : "019acdefgilnpu;xbm".charAt(random.nextInt(18))));
        }
        if (random.nextInt(8) == 0) {
            text.setLength(random.nextInt(text.length()));
        }
        if (random.nextInt(4) != 0 && text.length() > 96) {
            text.setLength(text.substring(0, 97).lastIndexOf(';') + 1);
        }
        for (int i = 0; i < text.length(); i++) {
            call("letter", text.charAt(i));
        }
        call("volume");
    }

    private String statement() {
        String inode = String.valueOf(random.nextInt(10));
        String block = String.valueOf(100 + random.nextInt(random.nextInt(8) == 0 ? 26 : 24)).substring(1);
        String number = String.valueOf(100 + random.nextInt(random.nextInt(8) == 0 ? 100 : 24)).substring(1);
        String slot = String.valueOf(random.nextInt(random.nextInt(20) == 0 ? 10 : 6));
        String pointer = String.valueOf(random.nextInt(random.nextInt(20) == 0 ? 10 : 3));
        char name = (char) ('a' + random.nextInt(26));
        char kind = "nfdlgh".charAt(random.nextInt(6));
        switch (random.nextInt(10)) {
            case 0: case 1: return "i" + inode + kind + random.nextInt(10) + random.nextInt(10) + ";";
            case 2: case 3: return "p" + inode + pointer + number + ";";
            case 4: case 5: return "e" + inode + slot + name + random.nextInt(10) + ";";
            case 6: return "x" + inode + slot + ";";
            case 7: return "b" + block + number + ";";
            case 8: return random.nextBoolean() ? "m" + block + ";" : "u" + inode + ";";
            default: return random.nextInt(4) == 0 ? "c;" : "u" + inode + ";";
        }
    }

    /** A row of what a check would ask, or of the links behind it, now and then with a wrong number. */
    private void tellRow() throws Exception {
        call("clear");
        boolean isOfReasons = random.nextBoolean();
        int most = random.nextInt(isOfReasons ? 12 : 12);
        long all = call("questions", 0);
        for (int i = 0; i < most && (isOfReasons ? i < all : i < 10); i++) {
            long due = isOfReasons ? call("question", i, 0) : call("then", i, 1);
            call("row", random.nextInt(30) == 0 ? random.nextInt(17) : (int) due);
        }
        if (isOfReasons) {
            call("whatIs", random.nextInt(10), random.nextInt(2));
            call("whatIs", random.nextInt(10), random.nextInt(2));
        } else {
            if (most > 10) {
                call("row", 0);
            }
            call("judge");
        }
    }

    /** Many directories and files at once, so that slots of inode 0 run out and rings come. */
    private void tellTree() throws Exception {
        for (int i = 1; i < 10; i++) {
            call("kind", i, random.nextInt(3) == 0 ? 1 + random.nextInt(5) : random.nextBoolean() ? 2 : 5);
        }
        for (int i = 0; i < 14; i++) {
            call("enters", random.nextInt(10), random.nextInt(5), random.nextInt(26), 1 + random.nextInt(9));
        }
    }
}

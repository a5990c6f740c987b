import java.util.function.LongSupplier;

/** Compares answers with those that are due, and tells how many were wrong. */
final class Due {
    private static int asked = 0;
    private static int wrong = 0;

    private Due() {
    }

    static void is(String call, long got, long want) {
        note(got == want, call, String.valueOf(got), String.valueOf(want));
    }

    static void is(String call, String got, String want) {
        note(got.equals(want), call, got, want);
    }

    /** A call answers a refusal (-1 .. -6) that counts once; nothing else that count() tells changes. */
    static void refusal(VolumeInFivePasses x, String call, LongSupplier made, int want) {
        String before = counts(x, want);
        int counted = x.count(10 - want);
        is(call, made.getAsLong(), want);
        is(call + ", how many refusals", x.count(10 - want), counted + 1);
        is(call + ", what it changed", counts(x, want), before);
    }

    /** Likewise of a call that answers a long. */
    static void longRefusal(VolumeInFivePasses x, String call, LongSupplier made, int want) {
        refusal(x, call, () -> 4000000000000000000L - made.getAsLong(), want);
    }

    private static String counts(VolumeInFivePasses x, int but) {
        StringBuilder told = new StringBuilder();
        for (int what = 0; what <= 16; what++) {
            told.append(what == 10 - but ? "" : x.count(what) + " ");
        }
        return told.toString();
    }

    private static void note(boolean isRight, String call, String got, String want) {
        asked++;
        if (!isRight) {
            wrong++;
            if (wrong <= 100) {
                System.out.println(call + " answered " + got + ", due is " + want);
            }
        }
    }

    static int wrongOnes() {
        return wrong;
    }

    /** Ends the program with exit code 1, if an answer was wrong. */
    static void end(String what) {
        System.out.println(what + ": " + asked + " answers, " + wrong + " not as due");
        if (wrong != 0) {
            System.exit(1);
        }
    }
}

/** Counts and prints what is not as due. Every test ends with done(). */
public final class Check {
    /** One call of the program; a boolean answer counts 1 or 0. */
    public interface Call {
        long answer();
    }

    /** One call of the program with a number that is tried out. */
    public interface NumberedCall {
        long answer(int number);
    }

    private static int wrong = 0;

    private Check() {
    }

    public static void same(String what, long got, long due) {
        if (got != due) {
            wrong++;
            System.out.println(what + " is " + got + ", due is " + due);
        }
    }

    public static void same(String what, boolean got, boolean due) {
        same(what, got ? 1 : 0, due ? 1 : 0);
    }

    public static void same(String what, String got, String due) {
        if (!got.equals(due)) {
            wrong++;
            System.out.println(what + " is " + got + ", due is " + due);
        }
    }

    public static void noIndex(String what, Call call) {
        same(what, outcome(call), "IndexOutOfBoundsException");
    }

    public static void noArgument(String what, Call call) {
        same(what, outcome(call), "IllegalArgumentException");
    }

    public static void noState(String what, Call call) {
        same(what, outcome(call), "IllegalStateException");
    }

    /** The first and the last number are taken; the next one on each side and the farthest ones are refused. */
    public static void range(String what, int first, int last, String refusal, NumberedCall call) {
        for (int number : new int[] {first, last}) {
            String got = outcome(() -> call.answer(number));
            same(what + " " + number + " is taken", isAnswer(got) ? "so" : got, "so");
        }
        for (int number : new int[] {first - 1, last + 1, Integer.MIN_VALUE, Integer.MAX_VALUE}) {
            same(what + " " + number, outcome(() -> call.answer(number)), refusal);
        }
    }

    public static void fraction(String what, int above, int below, String due) {
        same(what, above + " / " + below, due);
    }

    private static boolean isAnswer(String outcome) {
        return outcome.matches("-?[0-9]+");
    }

    /** The answer as text, or the simple name of what was thrown. */
    public static String outcome(Call call) {
        try {
            return Long.toString(call.answer());
        } catch (RuntimeException e) {
            return e.getClass().getSimpleName();
        }
    }

    /** The latest ring as text, such as "0 3 7"; empty if none was told. */
    public static String ring(DieGraphs x) {
        StringBuilder text = new StringBuilder();
        for (int k = 0; k < 40 && x.ring(k) != DieGraphs.NONE; k++) {
            text.append(k == 0 ? "" : " ").append(x.ring(k));
        }
        return text.toString();
    }

    /** Collects a text sign by sign, so that every length can be reached. */
    public static void collect(DieGraphs x, String text) {
        int[] words = new int[4];
        int filled = 0;
        for (int i = 0; i < text.length(); i++) {
            words[filled / 4] |= text.charAt(i) << filled % 4 * 8;
            filled++;
            if (filled == 16 || i == text.length() - 1) {
                x.unit(words[0], words[1], words[2], words[3]);
                words = new int[4];
                filled = 0;
            }
        }
    }

    public static int rule(DieGraphs x, String text) {
        collect(x, text);
        return x.rule();
    }

    public static void done() {
        System.out.println(wrong == 0 ? "all answers are as due" : wrong + " answers are not as due");
        System.exit(wrong == 0 ? 0 : 1);
    }
}

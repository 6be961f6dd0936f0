import java.util.Arrays;

/** Counts and prints the answers that are not as due. */
final class Check {
    static final String ILLEGAL = "IllegalArgumentException";
    static final String FULL = "UnsupportedOperationException";
    static final String OUTSIDE = "IndexOutOfBoundsException";

    interface Call {
        long answer();
    }

    interface CallOf {
        long answer(int[] arguments);
    }

    private int wrong = 0;

    void due(String call, long got, long want) {
        dueText(call, Long.toString(got), Long.toString(want));
    }

    void dueText(String call, String got, String want) {
        if (!got.equals(want)) {
            wrong++;
            System.out.println(call + " answered " + got + ", due is " + want);
        }
    }

    void dueThrow(String name, Call call, String want) {
        dueText(name, outcome(call), want);
    }

    /** Each row holds the arguments of one call that must throw IllegalArgumentException. */
    void dueIllegal(String name, int[][] rows, CallOf call) {
        for (int[] row : rows) {
            dueThrow(name + Arrays.toString(row), () -> call.answer(row), ILLEGAL);
        }
    }

    /** What a call answers, or the name of what it throws. */
    static String outcome(Call call) {
        try {
            return Long.toString(call.answer());
        } catch (RuntimeException e) {
            return e.getClass().getSimpleName();
        }
    }

    void end() {
        if (wrong != 0) {
            System.out.println(wrong + " answers are not as due");
            System.exit(1);
        }
    }
}

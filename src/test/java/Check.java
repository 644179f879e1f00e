/** Counts the answers of a test that are not due, and ends it. */
final class Check {
    interface Call {
        long answer();
    }

    private static final int MOST_SHOWN = 40;

    private int asked;
    private int wrong;

    void due(String call, long got, long want) {
        same(call, Long.toString(got), Long.toString(want));
    }

    void same(String call, String got, String want) {
        asked++;
        if (!got.equals(want)) {
            wrong++;
            if (wrong <= MOST_SHOWN) {
                System.out.println(call + " answered " + got + ", due is " + want);
            }
        }
    }

    void noSuch(String call, Call run) {
        same(call, outcome(run), "IndexOutOfBoundsException");
    }

    void outOfRange(String call, Call run) {
        same(call, outcome(run), "IllegalArgumentException");
    }

    void refused(String call, Call run) {
        same(call, outcome(run), "IllegalStateException");
    }

    private static String outcome(Call run) {
        try {
            return Long.toString(run.answer());
        } catch (RuntimeException e) {
            return e.getClass().getSimpleName();
        }
    }

    void end(String test) {
        System.out.println(test + ": " + asked + " answers, " + wrong + " not as due");
        if (wrong != 0) {
            System.exit(1);
        }
    }
}

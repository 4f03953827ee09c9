/** Compares answers with the ones that are due, and keeps count of the wrong ones. */
final class Check {
    // A broken loop would otherwise fill the screen with thousands of lines.
    private static final int MOST_LINES = 20;

    private static int wrong = 0;

    private Check() {
    }

    static void due(String call, long got, long want) {
        if (got != want) {
            fail(call + " answered " + got + ", due is " + want);
        }
    }

    static void holds(String claim, boolean truth) {
        if (!truth) {
            fail("does not hold: " + claim);
        }
    }

    static void finish() {
        if (wrong > 0) {
            System.out.println(wrong + " answers are not as due");
            System.exit(1);
        }
    }

    private static void fail(String line) {
        wrong++;
        if (wrong <= MOST_LINES) {
            System.out.println(line);
        }
    }
}

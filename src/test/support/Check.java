/** Compares answers with the ones that are due, and tells which sentence of the document is broken. */
final class Check {
    // A broken sweep would otherwise fill the screen; each sentence still gets lines of its own.
    private static final int LINES_PER_SENTENCE = 5;

    private static String sentence = "";
    private static int wrongInSentence = 0;
    private static int wrong = 0;

    private Check() {
    }

    /** What is checked from here on belongs to this sentence. */
    static void sentence(String words) {
        sentence = words;
        wrongInSentence = 0;
    }

    static void due(long got, long want, String method, int... arguments) {
        if (got != want) {
            fail(call(method, arguments) + " answered " + got + ", due is " + want);
        }
    }

    static void holds(boolean truth, String claim, int... arguments) {
        if (!truth) {
            fail(arguments.length == 0 ? claim : call(claim, arguments) + " breaks it");
        }
    }

    static void finish() {
        if (wrong > 0) {
            System.out.println(wrong + " answers are not as due");
            System.exit(1);
        }
    }

    private static String call(String method, int[] arguments) {
        StringBuilder text = new StringBuilder(method).append('(');
        for (int i = 0; i < arguments.length; i++) {
            text.append(i == 0 ? "" : ", ").append(arguments[i]);
        }
        return text.append(')').toString();
    }

    private static void fail(String line) {
        if (wrongInSentence == 0) {
            System.out.println("broken: " + sentence);
        }
        wrong++;
        wrongInSentence++;
        if (wrongInSentence <= LINES_PER_SENTENCE) {
            System.out.println("  " + line);
        }
    }
}

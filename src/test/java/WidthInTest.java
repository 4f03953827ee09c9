/** Promise 3: the width of a pass. */
public final class WidthInTest {
    private static final int SWEEP = 3000;
    // SWEEP times this goes once around all of int, so that negative widths come too.
    private static final int STRIDE = 1431655;

    private static final Adam7 ADAM7 = new Adam7();

    public static void main(String[] args) {
        examples();
        wrongPass();
        wrongPassWhateverTheWidth();
        wrongPassComesBeforeEmptyWidth();
        emptyWidth();
        widthUpToTheFirstColumn();
        everyColumnCounted();
        ceiling();
        exactUpToTheGreatestInt();
        exactAtPowersOfTwo();
        neverNegative();
        neverLargerThanTheWidth();
        Check.finish();
    }

    private static void due(int pass, int w, long want) {
        Check.due(ADAM7.widthIn(pass, w), want, "widthIn", pass, w);
    }

    private static void allPasses(int w, int... wants) {
        for (int pass = 0; pass < Table.PASSES; pass++) {
            due(pass, w, wants[pass]);
        }
    }

    private static void examples() {
        Check.sentence("3: the examples");
        allPasses(1, 1, 0, 1, 0, 1, 0, 1);
        allPasses(8, 1, 1, 2, 2, 4, 4, 8);
        allPasses(5, 1, 1, 2, 1, 3, 2, 5);
        due(0, 2147483647, 268435456);
        due(1, 2147483647, 268435456);
        due(5, 2147483647, 1073741823);
        due(6, 2147483647, 2147483647);
        due(7, 100, -1);
        due(-1, -5, -1);
        due(3, 0, 0);
        due(0, Integer.MIN_VALUE, 0);
    }

    private static void wrongPass() {
        Check.sentence("3, condition 1: if pass < 0 or pass > 6, it answers -1");
        due(-1, 8, -1);
        due(0, 8, 1);
        due(6, 8, 8);
        due(7, 8, -1);
        due(Integer.MIN_VALUE, 8, -1);
        due(Integer.MAX_VALUE, 8, -1);
    }

    private static void wrongPassWhateverTheWidth() {
        Check.sentence("3, condition 1: -1 whatever w is");
        for (int pass : Table.WRONG_PASSES) {
            for (int w : Table.EDGES) {
                due(pass, w, -1);
            }
        }
    }

    private static void wrongPassComesBeforeEmptyWidth() {
        Check.sentence("3: the conditions are tested in this order, 1 before 2");
        for (int pass : new int[] {Integer.MIN_VALUE, -1, 7, Integer.MAX_VALUE}) {
            due(pass, 0, -1);
            due(pass, -1, -1);
            due(pass, Integer.MIN_VALUE, -1);
        }
    }

    private static void emptyWidth() {
        Check.sentence("3, condition 2: if w <= 0, it answers 0");
        allPasses(1, 1, 0, 1, 0, 1, 0, 1);
        for (int pass = 0; pass < Table.PASSES; pass++) {
            for (int below = 0; below < SWEEP; below++) {
                due(pass, -below, 0);
                // Down here w - xs would wrap around to a great positive number.
                due(pass, Integer.MIN_VALUE + below, 0);
            }
        }
    }

    private static void widthUpToTheFirstColumn() {
        Check.sentence("3, condition 3: or 0 where w <= xs[pass]");
        due(1, 1, 0);
        due(1, 2, 0);
        due(1, 3, 0);
        due(1, 4, 0);
        due(1, 5, 1);
        due(3, 1, 0);
        due(3, 2, 0);
        due(3, 3, 1);
        due(5, 1, 0);
        due(5, 2, 1);
        for (int pass = 0; pass < Table.PASSES; pass += 2) {
            due(pass, 0, 0);
            due(pass, 1, 1);
        }
    }

    private static void everyColumnCounted() {
        Check.sentence("3, condition 3: the exact number of columns x with 0 <= x < w that lie in the pass");
        for (int pass = 0; pass < Table.PASSES; pass++) {
            int count = 0;
            for (int w = 0; w <= SWEEP; w++) {
                due(pass, w, count);
                boolean inPass = w >= Table.XS[pass] && (w - Table.XS[pass]) % Table.DX[pass] == 0;
                if (inPass) {
                    count++;
                }
            }
        }
    }

    /** The last width with one column and the first with two. */
    private static void ceiling() {
        Check.sentence("3, condition 3: this is the ceiling of (w - xs[pass]) / dx[pass]");
        due(0, 8, 1);
        due(0, 9, 2);
        due(1, 12, 1);
        due(1, 13, 2);
        due(2, 4, 1);
        due(2, 5, 2);
        due(3, 6, 1);
        due(3, 7, 2);
        due(4, 2, 1);
        due(4, 3, 2);
        due(5, 3, 1);
        due(5, 4, 2);
        due(6, 1, 1);
        due(6, 2, 2);
    }

    private static void exactUpToTheGreatestInt() {
        Check.sentence("3: exact for every w up to 2147483647, no wrap-around affects it");
        allPasses(2147483647, 268435456, 268435456, 536870912, 536870912, 1073741824, 1073741823, 2147483647);
        allPasses(2147483646, 268435456, 268435456, 536870912, 536870911, 1073741823, 1073741823, 2147483646);
        for (int pass = 0; pass < Table.PASSES; pass++) {
            for (int below = 0; below < SWEEP; below++) {
                int w = Integer.MAX_VALUE - below;
                due(pass, w, exactWidth(pass, w));
            }
        }
    }

    private static void exactAtPowersOfTwo() {
        Check.sentence("3: exact for every w, on both sides of each power of two");
        for (int pass = 0; pass < Table.PASSES; pass++) {
            for (int bit = 4; bit < 31; bit++) {
                for (int away = -16; away <= 16; away++) {
                    int w = (1 << bit) + away;
                    due(pass, w, exactWidth(pass, w));
                }
            }
        }
    }

    private static void neverNegative() {
        Check.sentence("3: for a valid pass the answer is never negative");
        for (int pass = 0; pass < Table.PASSES; pass++) {
            for (int w : Table.EDGES) {
                Check.holds(ADAM7.widthIn(pass, w) >= 0, "widthIn", pass, w);
            }
            for (int i = 0; i < SWEEP; i++) {
                int w = i * STRIDE;
                Check.holds(ADAM7.widthIn(pass, w) >= 0, "widthIn", pass, w);
            }
        }
    }

    private static void neverLargerThanTheWidth() {
        Check.sentence("3: when w > 0, never larger than w");
        for (int pass = 0; pass < Table.PASSES; pass++) {
            for (int w : Table.EDGES) {
                Check.holds(w <= 0 || ADAM7.widthIn(pass, w) <= w, "widthIn", pass, w);
            }
            for (int w = 1; w <= SWEEP; w++) {
                Check.holds(ADAM7.widthIn(pass, w) <= w, "widthIn", pass, w);
            }
        }
        // Pass 6 has every column, so it reaches the bound.
        due(6, 1, 1);
        due(6, 2147483647, 2147483647);
    }

    private static long exactWidth(int pass, int w) {
        if (w <= Table.XS[pass]) {
            return 0;
        }
        long step = Table.DX[pass];
        return ((long) w - Table.XS[pass] + step - 1) / step;
    }
}

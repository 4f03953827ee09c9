/** Promise 2: which pass a pixel belongs to. */
public final class PassOfTest {
    private static final int[][] BLOCK = {
        {0, 5, 3, 5, 1, 5, 3, 5},
        {6, 6, 6, 6, 6, 6, 6, 6},
        {4, 5, 4, 5, 4, 5, 4, 5},
        {6, 6, 6, 6, 6, 6, 6, 6},
        {2, 5, 3, 5, 2, 5, 3, 5},
        {6, 6, 6, 6, 6, 6, 6, 6},
        {4, 5, 4, 5, 4, 5, 4, 5},
        {6, 6, 6, 6, 6, 6, 6, 6}
    };

    private static final int LOW_BITS = 7;
    private static final int SWEEP = 2000;
    // Odd, so that its multiples spread over all of int and over all low bits.
    private static final int STRIDE = 1000003;

    private static final Adam7 ADAM7 = new Adam7();

    public static void main(String[] args) {
        examples();
        blockWrittenOut();
        onePassFits();
        negativeValues();
        extremes();
        minusOneIsSevenAndMinusEightIsZero();
        onlyLowThreeBitsCount();
        allThreeLowBitsCount();
        alwaysAPass();
        Check.finish();
    }

    private static void due(int x, int y, int want) {
        Check.due(ADAM7.passOf(x, y), want, "passOf", x, y);
    }

    private static void blockAt(int left, int top) {
        for (int down = 0; down < 8; down++) {
            for (int right = 0; right < 8; right++) {
                due(left + right, top + down, BLOCK[down][right]);
            }
        }
    }

    private static void examples() {
        Check.sentence("2: the examples");
        due(0, 0, 0);
        due(4, 0, 1);
        due(0, 4, 2);
        due(2, 0, 3);
        due(0, 2, 4);
        due(1, 0, 5);
        due(0, 1, 6);
        due(8, 16, 0);
        due(-4, -8, 1);
    }

    private static void blockWrittenOut() {
        Check.sentence("2: written out for the 8 by 8 block, and the blocks that begin where it ends");
        blockAt(0, 0);
        blockAt(8, 0);
        blockAt(0, 8);
        blockAt(8, 8);
    }

    private static void onePassFits() {
        Check.sentence("2: it answers the one pass whose first column, first row and steps fit");
        for (int y = 0; y < 8; y++) {
            for (int x = 0; x < 8; x++) {
                for (int pass = 0; pass < Table.PASSES; pass++) {
                    boolean fits = (x - Table.XS[pass]) % Table.DX[pass] == 0
                        && (y - Table.YS[pass]) % Table.DY[pass] == 0;
                    boolean answered = ADAM7.passOf(x, y) == pass;
                    Check.holds(fits == answered, "pass " + pass + ": passOf", x, y);
                }
            }
        }
    }

    private static void negativeValues() {
        Check.sentence("2: accepts every int value, including negative values");
        for (int away = 8; away <= 64; away += 8) {
            blockAt(-away, 0);
            blockAt(0, -away);
            blockAt(-away, -away);
        }
    }

    private static void extremes() {
        Check.sentence("2: accepts the extremes Integer.MIN_VALUE and Integer.MAX_VALUE");
        due(Integer.MIN_VALUE, Integer.MIN_VALUE, 0);
        due(Integer.MIN_VALUE, Integer.MAX_VALUE, 6);
        due(Integer.MAX_VALUE, Integer.MIN_VALUE, 5);
        due(Integer.MAX_VALUE, Integer.MAX_VALUE, 6);
        int[] firsts = {Integer.MIN_VALUE, -8, 0, Integer.MAX_VALUE - 7};
        for (int left : firsts) {
            for (int top : firsts) {
                blockAt(left, top);
            }
        }
    }

    private static void minusOneIsSevenAndMinusEightIsZero() {
        Check.sentence("2: -1 counts as 7 and -8 counts as 0");
        for (int k = 0; k < 8; k++) {
            due(-1, k, BLOCK[k][7]);
            due(k, -1, BLOCK[7][k]);
            due(-8, k, BLOCK[k][0]);
            due(k, -8, BLOCK[0][k]);
        }
    }

    private static void onlyLowThreeBitsCount() {
        Check.sentence("2: two calls whose arguments agree in their low three bits answer the same");
        for (int y = 0; y < 8; y++) {
            for (int x = 0; x < 8; x++) {
                int want = BLOCK[y][x];
                for (int bit = 3; bit < 32; bit++) {
                    int high = 1 << bit;
                    due(x | high, y, want);
                    due(x, y | high, want);
                    due(x | high, y | high, want);
                    due(x | ~LOW_BITS ^ high, y, want);
                    due(x, y | ~LOW_BITS ^ high, want);
                }
                due(x | ~LOW_BITS, y | ~LOW_BITS, want);
            }
        }
        for (int i = 0; i < SWEEP; i++) {
            for (int j = 0; j < SWEEP; j++) {
                int x = i * STRIDE;
                int y = j * STRIDE;
                due(x, y, BLOCK[y & LOW_BITS][x & LOW_BITS]);
            }
        }
    }

    /** Each of the three bits, changed alone, changes the answer where the block says so. */
    private static void allThreeLowBitsCount() {
        Check.sentence("2: the low three bits of x and of y count");
        due(16, 16, 0);
        due(16 + 1, 16, 5);
        due(16 + 2, 16, 3);
        due(16 + 4, 16, 1);
        due(16, 16 + 1, 6);
        due(16, 16 + 2, 4);
        due(16, 16 + 4, 2);
    }

    private static void alwaysAPass() {
        Check.sentence("2: the answer is always in 0..6 and never anything else");
        for (int x : Table.EDGES) {
            for (int y : Table.EDGES) {
                isAPass(x, y);
            }
        }
        for (int i = 0; i < SWEEP; i++) {
            for (int j = 0; j < SWEEP; j++) {
                isAPass(i * STRIDE, j * STRIDE);
            }
        }
    }

    private static void isAPass(int x, int y) {
        int pass = ADAM7.passOf(x, y);
        Check.holds(pass >= 0 && pass <= 6, "passOf", x, y);
    }
}

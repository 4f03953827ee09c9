/** Promise 4: placing a pass pixel in the image. */
public final class PlaceTest {
    private static final int SMALL_IMAGE = 64;

    /** The last column of each pass with x <= 65535, and that x. */
    private static final int[] LAST_COL = {8191, 8191, 16383, 16383, 32767, 32767, 65535};
    private static final int[] LAST_X = {65528, 65532, 65532, 65534, 65534, 65535, 65535};
    /** The last row of each pass with y <= 32767, and that y. */
    private static final int[] LAST_ROW = {4095, 4095, 4095, 8191, 8191, 16383, 16383};
    private static final int[] LAST_Y = {32760, 32760, 32764, 32764, 32766, 32766, 32767};
    /** place(pass, 0, 0). */
    private static final int[] FIRST = {0, 4, 262144, 2, 131072, 1, 65536};

    private static final Adam7 ADAM7 = new Adam7();

    public static void main(String[] args) {
        examples();
        wrongPass();
        wrongPassWhateverColumnAndRow();
        wrongPassComesBeforeWrongColumnOrRow();
        wrongPassComesBeforeTooFarPlace();
        colOutsideItsRange();
        rowOutsideItsRange();
        rangeComesBeforeTheProducts();
        xTooLarge();
        yTooLarge();
        xAndYTooLarge();
        packing();
        neverNegative();
        everyColumnExact();
        everyRowExact();
        everyPixelOnce();
        Check.finish();
    }

    private static void due(int pass, int col, int row, long want) {
        Check.due(ADAM7.place(pass, col, row), want, "place", pass, col, row);
    }

    private static void examples() {
        Check.sentence("4: the examples");
        due(0, 0, 0, 0);
        due(6, 0, 0, 65536);
        due(5, 2, 3, 393221);
        due(0, 8191, 0, 65528);
        due(0, 8192, 0, -2);
        due(6, 65535, 16383, 2147483647);
        due(6, 0, 16384, -2);
        due(0, 65536, 0, -2);
        due(2, 0, -1, -2);
        due(7, -1, 70000, -1);
    }

    private static void wrongPass() {
        Check.sentence("4, condition 1: if pass < 0 or pass > 6, it answers -1");
        due(-1, 0, 0, -1);
        due(0, 0, 0, 0);
        due(6, 0, 0, 65536);
        due(7, 0, 0, -1);
        due(Integer.MIN_VALUE, 0, 0, -1);
        due(Integer.MAX_VALUE, 0, 0, -1);
    }

    private static void wrongPassWhateverColumnAndRow() {
        Check.sentence("4, condition 1: -1 whatever col and row are");
        for (int pass : Table.WRONG_PASSES) {
            for (int col : Table.EDGES) {
                for (int row : Table.EDGES) {
                    due(pass, col, row, -1);
                }
            }
        }
    }

    private static void wrongPassComesBeforeWrongColumnOrRow() {
        Check.sentence("4: the conditions are tested in this order, 1 before 2");
        for (int pass : new int[] {Integer.MIN_VALUE, -1, 7, Integer.MAX_VALUE}) {
            due(pass, -1, 0, -1);
            due(pass, 65536, 0, -1);
            due(pass, 0, -1, -1);
            due(pass, 0, 65536, -1);
            due(pass, -1, -1, -1);
            due(pass, 65536, 65536, -1);
        }
    }

    private static void wrongPassComesBeforeTooFarPlace() {
        Check.sentence("4: the conditions are tested in this order, 1 before 3");
        for (int pass : new int[] {Integer.MIN_VALUE, -1, 7, Integer.MAX_VALUE}) {
            due(pass, 65535, 0, -1);
            due(pass, 0, 65535, -1);
            due(pass, 65535, 65535, -1);
        }
    }

    private static void colOutsideItsRange() {
        Check.sentence("4, condition 2: if col lies outside 0..65535, it answers -2");
        for (int pass = 0; pass < Table.PASSES; pass++) {
            due(pass, -1, 0, -2);
            due(pass, 0, 0, FIRST[pass]);
            due(pass, 65536, 0, -2);
            due(pass, Integer.MIN_VALUE, 0, -2);
            due(pass, Integer.MAX_VALUE, 0, -2);
        }
        // Only in pass 6 is the last allowed col not too far to the right.
        due(6, 65535, 0, 131071);
    }

    private static void rowOutsideItsRange() {
        Check.sentence("4, condition 2: if row lies outside 0..65535, it answers -2");
        for (int pass = 0; pass < Table.PASSES; pass++) {
            due(pass, 0, -1, -2);
            due(pass, 0, 0, FIRST[pass]);
            // An allowed row, but too far down in every pass.
            due(pass, 0, 65535, -2);
            due(pass, 0, 65536, -2);
            due(pass, 0, Integer.MIN_VALUE, -2);
            due(pass, 0, Integer.MAX_VALUE, -2);
        }
    }

    /** Columns and rows whose product with the step would wrap around to a place that is allowed. */
    private static void rangeComesBeforeTheProducts() {
        Check.sentence("4: the conditions are tested in this order, 2 before 3");
        for (int pass = 0; pass < Table.PASSES; pass++) {
            for (int bit = 28; bit < 32; bit++) {
                for (int more = 0; more < 16; more++) {
                    int wrapping = (1 << bit) + more;
                    due(pass, wrapping, 0, -2);
                    due(pass, 0, wrapping, -2);
                    due(pass, wrapping, wrapping, -2);
                    due(pass, -wrapping, 0, -2);
                    due(pass, 0, -wrapping, -2);
                }
            }
        }
    }

    private static void xTooLarge() {
        Check.sentence("4, condition 3: if x > 65535, it answers -2");
        for (int pass = 0; pass < Table.PASSES; pass++) {
            due(pass, LAST_COL[pass], 0, Table.YS[pass] * 65536L + LAST_X[pass]);
            due(pass, LAST_COL[pass] + 1, 0, -2);
            due(pass, LAST_COL[pass] + 1, LAST_ROW[pass], -2);
            due(pass, 65535, 0, pass == 6 ? 131071 : -2);
        }
    }

    private static void yTooLarge() {
        Check.sentence("4, condition 3: if y > 32767, it answers -2");
        for (int pass = 0; pass < Table.PASSES; pass++) {
            due(pass, 0, LAST_ROW[pass], LAST_Y[pass] * 65536L + Table.XS[pass]);
            due(pass, 0, LAST_ROW[pass] + 1, -2);
            due(pass, LAST_COL[pass], LAST_ROW[pass] + 1, -2);
            due(pass, 0, 65535, -2);
        }
    }

    private static void xAndYTooLarge() {
        Check.sentence("4, condition 3: if both x > 65535 and y > 32767, it answers -2");
        for (int pass = 0; pass < Table.PASSES; pass++) {
            due(pass, LAST_COL[pass] + 1, LAST_ROW[pass] + 1, -2);
            due(pass, 65536, 65535, -2);
        }
        for (int pass = 0; pass < 6; pass++) {
            due(pass, 65535, 65535, -2);
        }
    }

    private static void packing() {
        Check.sentence("4, condition 4: row y in the upper sixteen bits, column x in the lower sixteen");
        for (int pass = 0; pass < Table.PASSES; pass++) {
            due(pass, 0, 0, FIRST[pass]);
        }
        due(0, 1, 1, 8 * 65536 + 8);
        due(1, 1, 2, 16 * 65536 + 12);
        due(2, 3, 1, 12 * 65536 + 12);
        due(3, 2, 5, 20 * 65536 + 10);
        due(4, 7, 3, 14 * 65536 + 14);
        due(5, 9, 4, 8 * 65536 + 19);
        due(6, 11, 6, 13 * 65536 + 11);
        // The top bit of x must not run over into y.
        due(6, 32768, 0, 65536 + 32768);
        due(6, 65535, 1, 3 * 65536 + 65535);
    }

    /** The farthest place of each pass, where one more bit would reach the sign. */
    private static void neverNegative() {
        Check.sentence("4, condition 4: this answer is never negative");
        int[] farthest = {
            2147024888, 2147024892, 2147287036, 2147287038, 2147418110, 2147418111, 2147483647
        };
        for (int pass = 0; pass < Table.PASSES; pass++) {
            due(pass, LAST_COL[pass], LAST_ROW[pass], farthest[pass]);
            for (int row = 0; row <= LAST_ROW[pass]; row++) {
                Check.holds(ADAM7.place(pass, 0, row) >= 0, "place", pass, 0, row);
                Check.holds(ADAM7.place(pass, LAST_COL[pass], row) >= 0, "place", pass, LAST_COL[pass], row);
            }
        }
    }

    private static void everyColumnExact() {
        Check.sentence("4: within the allowed range of col the products and sums are exact");
        for (int pass = 0; pass < Table.PASSES; pass++) {
            for (int col = -10; col <= 65545; col++) {
                due(pass, col, 0, exactPlace(pass, col, 0));
                due(pass, col, LAST_ROW[pass], exactPlace(pass, col, LAST_ROW[pass]));
                due(pass, col, 65535, -2);
            }
        }
    }

    private static void everyRowExact() {
        Check.sentence("4: within the allowed range of row the products and sums are exact");
        for (int pass = 0; pass < Table.PASSES; pass++) {
            for (int row = -10; row <= 65545; row++) {
                due(pass, 0, row, exactPlace(pass, 0, row));
                due(pass, LAST_COL[pass], row, exactPlace(pass, LAST_COL[pass], row));
                due(pass, 65536, row, -2);
            }
        }
    }

    private static void everyPixelOnce() {
        Check.sentence("2 to 4 together: the passes reach every pixel once, each in the pass it belongs to");
        int[] reached = new int[SMALL_IMAGE * SMALL_IMAGE];
        for (int pass = 0; pass < Table.PASSES; pass++) {
            int columns = ADAM7.widthIn(pass, SMALL_IMAGE);
            int rows = SMALL_IMAGE / Table.DY[pass];
            for (int row = 0; row < rows; row++) {
                for (int col = 0; col < columns; col++) {
                    int packed = ADAM7.place(pass, col, row);
                    int x = packed & 65535;
                    int y = packed >> 16;
                    Check.due(ADAM7.passOf(x, y), pass, "passOf", x, y);
                    boolean inside = x < SMALL_IMAGE && y >= 0 && y < SMALL_IMAGE;
                    Check.holds(inside, "place", pass, col, row);
                    if (inside) {
                        reached[y * SMALL_IMAGE + x]++;
                    }
                }
            }
        }
        for (int i = 0; i < reached.length; i++) {
            Check.due(reached[i], 1, "times reached", i % SMALL_IMAGE, i / SMALL_IMAGE);
        }
    }

    private static long exactPlace(int pass, int col, int row) {
        if (col < 0 || col > 65535 || row < 0 || row > 65535) {
            return -2;
        }
        long x = Table.XS[pass] + (long) col * Table.DX[pass];
        long y = Table.YS[pass] + (long) row * Table.DY[pass];
        return x > 65535 || y > 32767 ? -2 : y * 65536 + x;
    }
}

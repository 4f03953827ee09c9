/** Promise 4: placing a pass pixel in the image. */
public final class PlaceTest {
    private static final int SMALL_IMAGE = 64;

    private static final Adam7 ADAM7 = new Adam7();

    public static void main(String[] args) {
        examples();
        edges();
        everyColumn();
        everyRow();
        everyPixelOnce();
        wrongPasses();
        Check.finish();
    }

    private static void due(int pass, int col, int row, long want) {
        Check.due("place(" + pass + ", " + col + ", " + row + ")", ADAM7.place(pass, col, row), want);
    }

    private static void examples() {
        due(0, 0, 0, 0);
        due(6, 0, 0, 65536);
        due(5, 2, 3, 393221);
        due(0, 8191, 0, 65528);
        due(0, 8192, 0, -2);
        due(6, 65535, 16383, 2147483647);
        due(6, 0, 16384, -2);
        due(0, 65536, 0, -2);
        due(2, 0, -1, -2);
        due(7, -1, 70000, -1);
    }

    private static void edges() {
        for (int pass = 0; pass < Table.PASSES; pass++) {
            for (int col : Table.EDGES) {
                for (int row : Table.EDGES) {
                    due(pass, col, row, exactPlace(pass, col, row));
                }
            }
        }
    }

    private static void everyColumn() {
        for (int pass = 0; pass < Table.PASSES; pass++) {
            for (int col = -10; col <= 65545; col++) {
                due(pass, col, 0, exactPlace(pass, col, 0));
                due(pass, col, 4095, exactPlace(pass, col, 4095));
            }
        }
    }

    private static void everyRow() {
        for (int pass = 0; pass < Table.PASSES; pass++) {
            for (int row = -10; row <= 65545; row++) {
                due(pass, 0, row, exactPlace(pass, 0, row));
                due(pass, 8191, row, exactPlace(pass, 8191, row));
            }
        }
    }

    /** The passes of one image together reach every pixel once, each in the pass it belongs to. */
    private static void everyPixelOnce() {
        int[] reached = new int[SMALL_IMAGE * SMALL_IMAGE];
        for (int pass = 0; pass < Table.PASSES; pass++) {
            int columns = ADAM7.widthIn(pass, SMALL_IMAGE);
            int rows = SMALL_IMAGE / Table.DY[pass];
            for (int row = 0; row < rows; row++) {
                for (int col = 0; col < columns; col++) {
                    int packed = ADAM7.place(pass, col, row);
                    int x = packed & 65535;
                    int y = packed >> 16;
                    Check.due("passOf(" + x + ", " + y + ")", ADAM7.passOf(x, y), pass);
                    boolean inside = x < SMALL_IMAGE && y >= 0 && y < SMALL_IMAGE;
                    Check.holds("pixel " + x + ", " + y + " lies in the image", inside);
                    if (inside) {
                        reached[y * SMALL_IMAGE + x]++;
                    }
                }
            }
        }
        for (int i = 0; i < reached.length; i++) {
            Check.due("times pixel " + i + " is reached", reached[i], 1);
        }
    }

    private static void wrongPasses() {
        for (int pass : Table.WRONG_PASSES) {
            for (int col : Table.EDGES) {
                for (int row : Table.EDGES) {
                    due(pass, col, row, -1);
                }
            }
        }
    }

    private static long exactPlace(int pass, int col, int row) {
        if (col < 0 || col > 65535 || row < 0 || row > 65535) {
            return -2;
        }
        long x = Table.XS[pass] + (long) col * Table.DX[pass];
        long y = Table.YS[pass] + (long) row * Table.DY[pass];
        return x > 65535 || y > 32767 ? -2 : y * 65536 + x;
    }
}

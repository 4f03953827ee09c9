/** Promise 2: which pass a pixel belongs to. */
public final class PassOfTest {
    private static final int[][] BLOCK = {
        {0, 5, 3, 5, 1, 5, 3, 5},
        {6, 6, 6, 6, 6, 6, 6, 6},
        {4, 5, 4, 5, 4, 5, 4, 5},
        {6, 6, 6, 6, 6, 6, 6, 6},
        {2, 5, 3, 5, 2, 5, 3, 5},
        {6, 6, 6, 6, 6, 6, 6, 6},
        {4, 5, 4, 5, 4, 5, 4, 5},
        {6, 6, 6, 6, 6, 6, 6, 6}
    };

    private static final Adam7 ADAM7 = new Adam7();

    public static void main(String[] args) {
        examples();
        blocksAroundZero();
        edges();
        fitsTheTable();
        Check.finish();
    }

    private static void due(int x, int y, int want) {
        Check.due("passOf(" + x + ", " + y + ")", ADAM7.passOf(x, y), want);
    }

    private static void examples() {
        due(0, 0, 0);
        due(4, 0, 1);
        due(0, 4, 2);
        due(2, 0, 3);
        due(0, 2, 4);
        due(1, 0, 5);
        due(0, 1, 6);
        due(8, 16, 0);
        due(-4, -8, 1);
    }

    private static void blocksAroundZero() {
        for (int y = -24; y < 24; y++) {
            for (int x = -24; x < 24; x++) {
                due(x, y, BLOCK[Math.floorMod(y, 8)][Math.floorMod(x, 8)]);
            }
        }
    }

    private static void edges() {
        for (int y : Table.EDGES) {
            for (int x : Table.EDGES) {
                due(x, y, BLOCK[Math.floorMod(y, 8)][Math.floorMod(x, 8)]);
            }
        }
    }

    private static void fitsTheTable() {
        for (int y = 0; y < 8; y++) {
            for (int x = 0; x < 8; x++) {
                int pass = ADAM7.passOf(x, y);
                Check.holds("passOf(" + x + ", " + y + ") is the pass that fits",
                    pass >= 0 && pass < Table.PASSES
                        && (x - Table.XS[pass]) % Table.DX[pass] == 0
                        && (y - Table.YS[pass]) % Table.DY[pass] == 0);
            }
        }
    }
}

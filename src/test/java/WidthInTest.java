/** Promise 3: the width of a pass. */
public final class WidthInTest {
    private static final int COUNTED_WIDTHS = 3000;

    private static final Adam7 ADAM7 = new Adam7();

    public static void main(String[] args) {
        examples();
        countedColumns();
        edges();
        greatWidths();
        wrongPasses();
        Check.finish();
    }

    private static void due(int pass, int w, long want) {
        Check.due("widthIn(" + pass + ", " + w + ")", ADAM7.widthIn(pass, w), want);
    }

    private static void allPasses(int w, int... wants) {
        for (int pass = 0; pass < Table.PASSES; pass++) {
            due(pass, w, wants[pass]);
        }
    }

    private static void examples() {
        allPasses(1, 1, 0, 1, 0, 1, 0, 1);
        allPasses(8, 1, 1, 2, 2, 4, 4, 8);
        allPasses(5, 1, 1, 2, 1, 3, 2, 5);
        due(0, 2147483647, 268435456);
        due(1, 2147483647, 268435456);
        due(5, 2147483647, 1073741823);
        due(6, 2147483647, 2147483647);
        due(7, 100, -1);
        due(-1, -5, -1);
        due(3, 0, 0);
        due(0, Integer.MIN_VALUE, 0);
    }

    private static void countedColumns() {
        for (int pass = 0; pass < Table.PASSES; pass++) {
            int count = 0;
            for (int w = 0; w <= COUNTED_WIDTHS; w++) {
                due(pass, w, count);
                boolean inPass = w >= Table.XS[pass] && (w - Table.XS[pass]) % Table.DX[pass] == 0;
                if (inPass) {
                    count++;
                }
            }
        }
    }

    private static void edges() {
        for (int pass = 0; pass < Table.PASSES; pass++) {
            for (int w : Table.EDGES) {
                due(pass, w, exactWidth(pass, w));
            }
        }
    }

    private static void greatWidths() {
        for (int pass = 0; pass < Table.PASSES; pass++) {
            for (int below = 0; below < COUNTED_WIDTHS; below++) {
                int w = Integer.MAX_VALUE - below;
                due(pass, w, exactWidth(pass, w));
            }
        }
    }

    private static void wrongPasses() {
        for (int pass : Table.WRONG_PASSES) {
            for (int w : Table.EDGES) {
                due(pass, w, -1);
            }
        }
    }

    private static long exactWidth(int pass, int w) {
        if (w <= Table.XS[pass]) {
            return 0;
        }
        long step = Table.DX[pass];
        return ((long) w - Table.XS[pass] + step - 1) / step;
    }
}

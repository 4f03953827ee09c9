/** The geometry of the seven Adam7 passes, and where a pass's pixels lie in the image. */
public final class Adam7 {
    private static final int LAST_PASS = 6;
    private static final int BLOCK_MASK = 7;

    private static final int NO_SUCH_PASS = -1;
    private static final int NO_SUCH_PLACE = -2;

    private static final int MAX_PASS_INDEX = 65535;
    private static final int MAX_X = 65535;
    // One bit fewer than x has, so that the packed answer never turns negative.
    private static final int MAX_Y = 32767;
    private static final int Y_SHIFT = 16;

    public Adam7() {
    }

    public int passOf(int x, int y) {
        int blockX = x & BLOCK_MASK;
        int blockY = y & BLOCK_MASK;
        for (int pass = 0; pass < LAST_PASS; pass++) {
            if (holds(pass, blockX, blockY)) {
                return pass;
            }
        }
        // The passes share out the whole block, so what no other pass holds is the last one's.
        return LAST_PASS;
    }

    public int widthIn(int pass, int w) {
        if (!isPass(pass)) {
            return NO_SUCH_PASS;
        }
        int first = firstColumn(pass);
        if (w <= first) {
            return 0;
        }
        // Counting from the last column rounds up without a sum that could pass the greatest int.
        int lastColumn = w - 1;
        return (lastColumn - first) / columnStep(pass) + 1;
    }

    public int place(int pass, int col, int row) {
        if (!isPass(pass)) {
            return NO_SUCH_PASS;
        }
        // Looked at before the products, which are exact only for indices in this range.
        if (!isPassIndex(col) || !isPassIndex(row)) {
            return NO_SUCH_PLACE;
        }
        int x = firstColumn(pass) + col * columnStep(pass);
        int y = firstRow(pass) + row * rowStep(pass);
        if (x > MAX_X || y > MAX_Y) {
            return NO_SUCH_PLACE;
        }
        return y << Y_SHIFT | x;
    }

    private static boolean isPass(int pass) {
        return pass >= 0 && pass <= LAST_PASS;
    }

    private static boolean isPassIndex(int index) {
        return index >= 0 && index <= MAX_PASS_INDEX;
    }

    private static boolean holds(int pass, int blockX, int blockY) {
        return (blockX - firstColumn(pass)) % columnStep(pass) == 0
            && (blockY - firstRow(pass)) % rowStep(pass) == 0;
    }

    // The pass table stands in these four methods and not in arrays, so that there is no index
    // that could be out of range and no step that could be zero.

    private static int firstColumn(int pass) {
        switch (pass) {
            case 1: return 4;
            case 3: return 2;
            case 5: return 1;
            default: return 0;
        }
    }

    private static int firstRow(int pass) {
        switch (pass) {
            case 2: return 4;
            case 4: return 2;
            case 6: return 1;
            default: return 0;
        }
    }

    private static int columnStep(int pass) {
        switch (pass) {
            case 0: return 8;
            case 1: return 8;
            case 2: return 4;
            case 3: return 4;
            case 4: return 2;
            case 5: return 2;
            default: return 1;
        }
    }

    private static int rowStep(int pass) {
        switch (pass) {
            case 0: return 8;
            case 1: return 8;
            case 2: return 8;
            case 3: return 4;
            case 4: return 4;
            default: return 2;
        }
    }
}

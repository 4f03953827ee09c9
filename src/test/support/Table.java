/** The pass table as the document prints it, and inputs that several tests share. */
final class Table {
    static final int PASSES = 7;
    static final int[] XS = {0, 4, 0, 2, 0, 1, 0};
    static final int[] YS = {0, 0, 4, 0, 2, 0, 1};
    static final int[] DX = {8, 8, 4, 4, 2, 2, 1};
    static final int[] DY = {8, 8, 8, 4, 4, 2, 2};

    /** Values at and around every bound that the document or int arithmetic has. */
    static final int[] EDGES = {
        Integer.MIN_VALUE, Integer.MIN_VALUE + 1, Integer.MIN_VALUE + 2, Integer.MIN_VALUE + 4,
        Integer.MIN_VALUE + 8, -1073741824, -536870912, -65537, -65536, -65535, -32769, -32768,
        -9, -8, -7, -6, -5, -4, -3, -2, -1, 0, 1, 2, 3, 4, 5, 6, 7, 8, 9, 15, 16,
        4095, 4096, 8191, 8192, 16383, 16384, 32767, 32768, 65534, 65535, 65536, 65537,
        268435455, 268435456, 536870911, 536870912, 1073741823, 1073741824,
        Integer.MAX_VALUE - 8, Integer.MAX_VALUE - 1, Integer.MAX_VALUE
    };

    static final int[] WRONG_PASSES = {
        Integer.MIN_VALUE, Integer.MIN_VALUE + 3, -65536, -256, -8, -7, -6, -2, -1,
        7, 8, 9, 14, 16, 256, 65536, Integer.MAX_VALUE - 1, Integer.MAX_VALUE
    };

    private Table() {
    }
}

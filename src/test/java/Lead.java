/** Leads an object by several calls. */
final class Lead {
    /** All there are, those of fewer cells first, then as PARTITIONS are numbered. */
    static final int[][] SHAPES = {
        {1, 0, 0, 0, 0}, {2, 0, 0, 0, 0}, {1, 1, 0, 0, 0}, {3, 0, 0, 0, 0}, {2, 1, 0, 0, 0}, {1, 1, 1, 0, 0},
        {4, 0, 0, 0, 0}, {3, 1, 0, 0, 0}, {2, 2, 0, 0, 0}, {2, 1, 1, 0, 0}, {1, 1, 1, 1, 0}, {5, 0, 0, 0, 0},
        {4, 1, 0, 0, 0}, {3, 2, 0, 0, 0}, {3, 1, 1, 0, 0}, {2, 2, 1, 0, 0}, {2, 1, 1, 1, 0}, {1, 1, 1, 1, 1}
    };
    /** How many STANDARD ones each of them has. */
    static final int[] STANDARD_ONES = {1, 1, 1, 1, 2, 1, 1, 3, 2, 3, 1, 1, 4, 5, 6, 5, 4, 1};

    private Lead() {
    }

    /** A new object of this SHAPE; rows that are not named are none. */
    static SwapTables shape(int... rows) {
        SwapTables x = new SwapTables();
        toShape(x, rows);
        return x;
    }

    static int toShape(SwapTables x, int... rows) {
        return x.shape(at(rows, 0), at(rows, 1), at(rows, 2), at(rows, 3), at(rows, 4));
    }

    private static int at(int[] rows, int i) {
        return i < rows.length ? rows[i] : 0;
    }

    /** Feeds a text to THE TAPE. */
    static void feed(SwapTables x, String text) {
        for (int i = 0; i < text.length(); i++) {
            x.feed(text.charAt(i));
        }
    }

    /** The REGISTER is told by a text. */
    static SwapTables read(SwapTables x, int r, String text) {
        feed(x, text);
        x.read(r);
        return x;
    }

    /** Makes a ROW of just these numbers. */
    static void row(SwapTables x, int shelf, int... numbers) {
        x.row(shelf, numbers.length);
        for (int i = 0; i < numbers.length; i++) {
            x.put(shelf, i, numbers[i]);
        }
    }

    /** Makes a VECTOR of these numbers; those behind them are 0. */
    static void vector(SwapTables x, int shelf, int... numbers) {
        x.vector(shelf, 0);
        for (int k = 0; k < numbers.length; k++) {
            x.give(shelf, k, numbers[k]);
        }
    }
}

/** Counts and prints the answers that are not as due. */
final class Due {
    private final String name;
    private int wrong = 0;
    private int looked = 0;

    Due(String name) {
        this.name = name;
    }

    void is(String call, long got, long want) {
        looked++;
        if (got != want) {
            wrong++;
            if (wrong <= 50) {
                System.out.println(name + ": " + call + " answered " + got + ", due is " + want);
            }
        }
    }

    void holds(String what, boolean holds) {
        is(what, holds ? 1 : 0, 1);
    }

    void end() {
        System.out.println(name + ": " + looked + " answers, " + wrong + " not as due");
        if (wrong != 0) {
            System.exit(1);
        }
    }

    /** Feeds a text to THE TAPE. */
    static void feed(SwapTables x, String text) {
        for (int i = 0; i < text.length(); i++) {
            x.feed(text.charAt(i));
        }
    }

    /** Makes a ROW of just these numbers. */
    static void row(SwapTables x, int shelf, int... numbers) {
        x.row(shelf, numbers.length);
        for (int i = 0; i < numbers.length; i++) {
            x.put(shelf, i, numbers[i]);
        }
    }
}

/**
 * All that can be seen of an object, as one text: also what only calls that change it show, so that it is not to be
 * used behind that. It takes at most some 400 calls.
 */
final class Look {
    private static final int REGISTERS = 4;
    private static final int SHELVES = 4;

    private final SwapTables x;
    private final StringBuilder seen = new StringBuilder();

    private Look(SwapTables x) {
        this.x = x;
    }

    static String through(SwapTables x) {
        Look look = new Look(x);
        look.why();
        look.rest();
        return look.seen.toString();
    }

    /** For read(), by which alone WHY changes. */
    static String throughAllButWhy(SwapTables x) {
        Look look = new Look(x);
        look.rest();
        return look.seen.toString();
    }

    private void rest() {
        standing();
        stepsBack();
        tape();
        seen.append("\nrestored ").append(x.restore());
        standing();
    }

    private void why() {
        int troubles = x.count(2);
        seen.append("why of ").append(troubles);
        for (int i = 0; i < Math.min(troubles, 8); i++) {
            seen.append(' ').append(x.why(i, 0)).append(" at ").append(x.why(i, 1));
        }
    }

    private void standing() {
        seen.append("\nshape");
        for (int row = 0; row < x.of(1); row++) {
            seen.append(' ').append(x.cell(row, 0, 0));
        }
        seen.append(" of ").append(x.of(0)).append(" counts");
        for (int what : new int[] {0, 1, 3}) {
            seen.append(' ').append(x.count(what));
        }
        registers();
        for (int shelf = 0; shelf < SHELVES; shelf++) {
            shelf(shelf);
        }
    }

    /** Where N goes is told by where all others go. */
    private void registers() {
        int n = x.of(0);
        for (int r = 0; r < REGISTERS; r++) {
            seen.append("\nregister");
            for (int i = 1; i < n; i++) {
                seen.append(' ').append(x.takes(r, i));
            }
        }
    }

    private void shelf(int shelf) {
        int judged = x.judge(shelf);
        seen.append("\nshelf ").append(judged);
        for (int k = 0; judged == -12 && k < x.of(2); k++) {
            seen.append(" number ").append(x.has(shelf, k));
        }
        for (long i = 0, v = x.get(shelf, 0); v != SwapTables.VOID; i++, v = x.get(shelf, (int) i)) {
            seen.append(" place ").append(v);
        }
    }

    private void stepsBack() {
        for (int steps = x.count(0); steps >= 0; steps--) {
            seen.append("\nback ").append(x.back());
            registers();
        }
    }

    private void tape() {
        seen.append("\ntape ").append(x.read(0)).append(", troubles ").append(x.count(2));
        registers();
    }
}

import java.util.Arrays;
import java.util.function.Supplier;

/**
 * Each number that a call is given has a range: its least and its greatest are taken, the one below and the one above
 * are refused, and so are the least and the greatest int. Where the range follows SHAPE: in several ones.
 */
public final class RangesTest {
    private static final int BAD = SwapTables.BAD;
    private static final long VOID = SwapTables.VOID;
    private static final int MOST = Integer.MAX_VALUE;
    private static final int[][] SHAPES = {{1}, {2}, {1, 1}, {2, 1}, {2, 2}, {5}, {3, 1, 1}, {2, 2, 1}, {1, 1, 1, 1, 1}};
    private static final int[] PARTITIONS = {0, 1, 2, 3, 5, 7};

    private static final Due due = new Due("RangesTest");
    private static final Twins twins = new Twins(due);

    private static int[] shape;
    private static int n;
    private static int d;
    private static Supplier<SwapTables> vectors;
    private static Supplier<SwapTables> rows;

    private interface Call {
        long on(SwapTables x, int... a);
    }

    public static void main(String[] args) {
        for (int[] one : SHAPES) {
            shape = one;
            vectors = () -> Twins.withVectors(one);
            rows = () -> Twins.withRows(one);
            n = rows.get().of(0);
            d = rows.get().of(2);
            cells();
            orders();
            partitions();
            axes();
            vectors();
            rows();
            tapeAndWhy();
        }
        due.end();
    }

    private static void cells() {
        ranges("of", rows, (x, a) -> x.of(a[0]), BAD, 0, 4);
        ranges("cell, row", rows, (x, a) -> x.cell(a[0], 0, a[1]), VOID, 0, shape.length - 1, 0, 1);
        for (int row = 0; row < shape.length; row++) {
            int at = row;
            ranges("cell of row " + row, rows, (x, a) -> x.cell(at, a[0], a[1]), VOID, 0, shape[row] - 1, 0, 1);
        }
        ranges("standard", rows, (x, a) -> x.standard(a[0], a[1], a[2]), BAD, 0, d - 1, 1, n, 0, 1);
        ranges("branch", rows, (x, a) -> x.branch(a[0]), BAD, -1, shape.length - 1);
    }

    private static void orders() {
        if (n > 1) {
            ranges("swap", rows, (x, a) -> x.swap(a[0], a[1]), BAD, 0, 3, 1, n - 1);
        }
        ranges("times", rows, (x, a) -> x.times(a[0], a[1], a[2]), BAD, 0, 3, 0, 3, 0, 3);
        ranges("turn", rows, (x, a) -> x.turn(a[0]), BAD, 0, 3);
        ranges("takes", rows, (x, a) -> x.takes(a[0], a[1]), BAD, 0, 3, 1, n);
        ranges("told", rows, (x, a) -> x.told(a[0], a[1]), VOID, 0, 3, 0, 2);
        ranges("word", rows, (x, a) -> x.word(a[0], a[1]), BAD, 0, 3, 0, MOST);
    }

    /** Of k -1 i does not matter, so that k and i are looked at one by one. */
    private static void partitions() {
        int last = PARTITIONS[n] - 1;
        ranges("partition", rows, (x, a) -> x.partition(a[0], 0), BAD, -1, last);
        ranges("partition, how many it has", rows, (x, a) -> x.partition(a[0], -1), BAD, -1, last);
        ranges("partition 0", rows, (x, a) -> x.partition(0, a[0]), BAD, -1, MOST);
        ranges("the last partition", rows, (x, a) -> x.partition(last, a[0]), BAD, -1, MOST);
        ranges("characterOf", rows, (x, a) -> x.characterOf(a[0]), VOID, 0, last);
    }

    private static void axes() {
        ranges("straight", rows, (x, a) -> x.straight(a[0], a[1]), VOID, 0, 3, 0, d - 1);
        ranges("whole", rows, (x, a) -> x.whole(a[0], a[1], a[2]), VOID, 0, 3, 0, d - 1, 0, d - 1);
        ranges("fraction", rows, (x, a) -> x.fraction(a[0], a[1], a[2], a[3]), VOID, 0, 3, 0, d - 1, 0, d - 1, 0, 1);
        ranges("norm", rows, (x, a) -> x.norm(a[0], a[1]), VOID, 0, d - 1, 0, 1);
        ranges("character", rows, (x, a) -> x.character(a[0]), VOID, 0, 3);
    }

    private static void vectors() {
        ranges("vector", rows, (x, a) -> x.vector(a[0], a[1]), BAD, 0, 3, 0, d - 1);
        ranges("give", vectors, (x, a) -> x.give(a[0], a[1], a[2]), VOID, 0, 3, 0, d - 1, -999, 999);
        ranges("has", vectors, (x, a) -> x.has(a[0], a[1]), VOID, 0, 3, 0, d - 1);
        ranges("acts", vectors, (x, a) -> x.acts(a[0], a[1]), BAD, 0, 3, 0, 3);
        ranges("inner", vectors, (x, a) -> x.inner(a[0], a[1], a[2]), VOID, 0, 3, 0, 3, 0, 1);
    }

    /** A place outside and a size below have answers of their own. */
    private static void rows() {
        ranges("which", rows, (x, a) -> x.which(a[0]), BAD, 0, 3);
        ranges("row", rows, (x, a) -> x.row(a[0], 0), BAD, 0, 3);
        twins.refuses("row of 21", rows, x -> x.row(0, 21), BAD);
        twins.refuses("row of the greatest int", rows, x -> x.row(0, MOST), BAD);
        twins.refuses("row of -2", rows, x -> x.row(0, -2), -14);
        twins.refuses("row of the least int", rows, x -> x.row(0, Integer.MIN_VALUE), -14);
        ranges("put, shelf", rows, (x, a) -> x.put(a[0], 0, 5), BAD, 0, 3);
        ranges("put, place", rows, (x, a) -> x.put(0, a[0], 5), -13, 0, n - 1);
        ranges("put, number", rows, (x, a) -> x.put(3, 0, a[0]), BAD, Integer.MIN_VALUE, MOST);
        ranges("get", rows, (x, a) -> x.get(a[0], a[1]), VOID, 0, 3, 0, n - 1);
        ranges("film", rows, (x, a) -> x.film(a[0], a[1]), BAD, 0, 3, 0, d - 1);
        ranges("judge", rows, (x, a) -> x.judge(a[0]), BAD, 0, 3);
    }

    private static void tapeAndWhy() {
        ranges("feed", rows, (x, a) -> x.feed(a[0]), BAD, 32, 126);
        ranges("read", rows, (x, a) -> x.read(a[0]), BAD, 0, 3);
        ranges("why", rows, (x, a) -> x.why(a[0], a[1]), BAD, 0, MOST, 0, 1);
        ranges("count", rows, (x, a) -> x.count(a[0]), BAD, 0, 4);
    }

    /** The least and the greatest of each number, the others being their least. */
    private static void ranges(String name, Supplier<SwapTables> led, Call call, long refusal, int... ranges) {
        int[] least = new int[ranges.length / 2];
        for (int at = 0; at < least.length; at++) {
            least[at] = ranges[2 * at];
        }
        String shaped = Arrays.toString(shape) + " " + name;
        for (int at = 0; at < least.length; at++) {
            int greatest = ranges[2 * at + 1];
            for (int v : new int[] {least[at], greatest, least[at] - 1, greatest + 1, Integer.MIN_VALUE, MOST}) {
                int[] numbers = least.clone();
                numbers[at] = v;
                String told = shaped + ", number " + at + " is " + v;
                if (v >= least[at] && v <= greatest) {
                    due.holds(told + ": taken", call.on(led.get(), numbers) != refusal);
                } else {
                    twins.refuses(told, led, x -> call.on(x, numbers), refusal);
                }
            }
        }
    }
}

import java.util.Arrays;
import java.util.function.Supplier;

/**
 * Each number that a call is given has a range: its least and its greatest are taken, the one below and the one above
 * are refused, and so are the least and the greatest int. Where the range follows SHAPE: in several ones.
 */
public final class RangesTest {
    private static final int BAD = SwapTables.BAD;
    private static final long VOID = SwapTables.VOID;
    private static final int MOST = Integer.MAX_VALUE;
    private static final int[][] SHAPES = {{1}, {2}, {1, 1}, {2, 1}, {2, 2}, {5}, {3, 1, 1}, {2, 2, 1}, {1, 1, 1, 1, 1}};
    private static final int[] PARTITIONS = {0, 1, 2, 3, 5, 7};

    private static final Due due = new Due("RangesTest");
    private static final Twins twins = new Twins(due);

    private static int[] shape;
    private static int n;
    private static int d;
    private static Supplier<SwapTables> vectors;
    private static Supplier<SwapTables> rows;

    private interface Call {
        long on(SwapTables x, int... a);
    }

    public static void main(String[] args) {
        for (int[] one : SHAPES) {
            shape = one;
            vectors = () -> Twins.withVectors(one);
            rows = () -> Twins.withRows(one);
            n = rows.get().of(0);
            d = rows.get().of(2);
            cells();
            orders();
            partitions();
            axes();
            vectors();
            rows();
            tapeAndWhy();
        }
        due.end();
    }

    private static void cells() {
        due.sentence("`int of(int what)`: 0 N, 1 how many rows, 2 D, 3 all HOOKS multiplied, 4 the number of SHAPE as a"
            + " PARTITION of N. BAD.");
        ranges("of", rows, (x, a) -> x.of(a[0]), BAD, 0, 4);
        due.sentence("`long cell(int row, int column, int what)`: HOOK (what 0), CONTENT (1) of a cell. VOID: BAD.");
        ranges("cell, row", rows, (x, a) -> x.cell(a[0], 0, a[1]), VOID, 0, shape.length - 1, 0, 1);
        for (int row = 0; row < shape.length; row++) {
            int at = row;
            ranges("cell of row " + row, rows, (x, a) -> x.cell(at, a[0], a[1]), VOID, 0, shape[row] - 1, 0, 1);
        }
        due.sentence("`int standard(int k, int i, int what)`: In which row of STANDARD k the number i stands (what 0), in"
            + " which column (1). BAD.");
        ranges("standard", rows, (x, a) -> x.standard(a[0], a[1], a[2]), BAD, 0, d - 1, 1, n, 0, 1);
        due.sentence("`int branch(int row)`: BRANCHES: bits (row -1); of a row how many. BAD: no row of it;");
        ranges("branch", rows, (x, a) -> x.branch(a[0]), BAD, -1, shape.length - 1);
    }

    private static void orders() {
        due.sentence("`int swap(int r, int k)`: A REGISTER becomes it times SWAP k: its LENGTH. BAD.");
        if (n > 1) {
            ranges("swap", rows, (x, a) -> x.swap(a[0], a[1]), BAD, 0, 3, 1, n - 1);
        }
        due.sentence("`int times(int r, int s, int t)`: REGISTER r becomes the product of s and t: its LENGTH. BAD.");
        ranges("times", rows, (x, a) -> x.times(a[0], a[1], a[2]), BAD, 0, 3, 0, 3, 0, 3);
        due.sentence("`int turn(int r)`: A REGISTER is TURNED: its LENGTH. BAD.");
        ranges("turn", rows, (x, a) -> x.turn(a[0]), BAD, 0, 3);
        due.sentence("`int takes(int r, int i)`: Where a REGISTER takes i (1 .. N). BAD.");
        ranges("takes", rows, (x, a) -> x.takes(a[0], a[1]), BAD, 0, 3, 1, n);
        due.sentence("`long told(int r, int what)`: LENGTH of a REGISTER (what 0), SIGN (1), TYPE (2). VOID: BAD.");
        ranges("told", rows, (x, a) -> x.told(a[0], a[1]), VOID, 0, 3, 0, 2);
        due.sentence("`int word(int r, int i)`: The i-th SWAP (0 on) of a REGISTER's WORD. BAD: r, i below 0;");
        ranges("word", rows, (x, a) -> x.word(a[0], a[1]), BAD, 0, 3, 0, MOST);
    }

    /** Of k -1 i does not matter, so that k and i are looked at one by one. */
    private static void partitions() {
        int last = PARTITIONS[n] - 1;
        due.sentence("`int partition(int k, int i)`: Number i (0 on) of PARTITION k of N; i -1: how many it has; k -1: how"
            + " many PARTITIONS there are (i does not matter). BAD: k, i below -1;");
        ranges("partition", rows, (x, a) -> x.partition(a[0], 0), BAD, -1, last);
        ranges("partition, how many it has", rows, (x, a) -> x.partition(a[0], -1), BAD, -1, last);
        ranges("partition 0", rows, (x, a) -> x.partition(0, a[0]), BAD, -1, MOST);
        ranges("the last partition", rows, (x, a) -> x.partition(last, a[0]), BAD, -1, MOST);
        due.sentence("`long characterOf(int k)`: CHARACTER of PARTITION k. VOID: BAD.");
        ranges("characterOf", rows, (x, a) -> x.characterOf(a[0]), VOID, 0, last);
    }

    private static void axes() {
        due.sentence("`long straight(int shelf, int j)`: STRAIGHT of the FILLING a ROW tells: the number of STANDARD j."
            + " VOID: BAD,");
        ranges("straight", rows, (x, a) -> x.straight(a[0], a[1]), VOID, 0, 3, 0, d - 1);
        due.sentence("`long whole(int r, int k, int j)`: WHOLE of a REGISTER, of k and j. VOID: BAD.");
        ranges("whole", rows, (x, a) -> x.whole(a[0], a[1], a[2]), VOID, 0, 3, 0, d - 1, 0, d - 1);
        due.sentence("`long fraction(int r, int k, int j, int part)`: FRACTION of a REGISTER, of k and j."
            + " VOID: BAD: r, k, j, part.");
        ranges("fraction", rows, (x, a) -> x.fraction(a[0], a[1], a[2], a[3]), VOID, 0, 3, 0, d - 1, 0, d - 1, 0, 1);
        due.sentence("`long norm(int k, int part)`: NORM of STANDARD k. VOID: BAD.");
        ranges("norm", rows, (x, a) -> x.norm(a[0], a[1]), VOID, 0, d - 1, 0, 1);
        due.sentence("`long character(int r)`: CHARACTER of a REGISTER. VOID: BAD.");
        ranges("character", rows, (x, a) -> x.character(a[0]), VOID, 0, 3);
    }

    private static void vectors() {
        due.sentence("`int vector(int shelf, int k)`: A SHELF holds a VECTOR, all 0 but 1 for STANDARD k: D. BAD.");
        ranges("vector", rows, (x, a) -> x.vector(a[0], a[1]), BAD, 0, 3, 0, d - 1);
        due.sentence("`long give(int shelf, int k, int v)`: The number of STANDARD k in a VECTOR becomes v: what it was."
            + " VOID: BAD,");
        ranges("give", vectors, (x, a) -> x.give(a[0], a[1], a[2]), VOID, 0, 3, 0, d - 1, -999, 999);
        due.sentence("`long has(int shelf, int k)`: The number of STANDARD k in a VECTOR. VOID: BAD,");
        ranges("has", vectors, (x, a) -> x.has(a[0], a[1]), VOID, 0, 3, 0, d - 1);
        due.sentence("`int acts(int shelf, int r)`: A VECTOR is ACTED on by a REGISTER: 1. BAD;");
        ranges("acts", vectors, (x, a) -> x.acts(a[0], a[1]), BAD, 0, 3, 0, 3);
        due.sentence("`long inner(int one, int other, int part)`: PRODUCT of two VECTORS. VOID: BAD: shelves, part;");
        ranges("inner", vectors, (x, a) -> x.inner(a[0], a[1], a[2]), VOID, 0, 3, 0, 3, 0, 1);
    }

    /** A place outside and a size below have answers of their own. */
    private static void rows() {
        due.sentence("`int which(int shelf)`: Which STANDARD one a ROW tells. BAD: shelf;");
        ranges("which", rows, (x, a) -> x.which(a[0]), BAD, 0, 3);
        due.sentence("`int row(int shelf, int n)`: A SHELF holds a ROW of n ints (0 .. 20), all 0, or nothing (n -1): 1."
            + " BAD: shelf, n above 20; -14: n below -1.");
        ranges("row, shelf", rows, (x, a) -> x.row(a[0], 0), BAD, 0, 3);
        for (int size : new int[] {-1, 0, 1, 19, 20}) {
            due.is("row of " + size, rows.get().row(3, size), 1);
        }
        twins.refuses("row of 21", rows, x -> x.row(0, 21), BAD);
        twins.refuses("row of the greatest int", rows, x -> x.row(0, MOST), BAD);
        twins.refuses("row of -2", rows, x -> x.row(0, -2), -14);
        twins.refuses("row of the least int", rows, x -> x.row(0, Integer.MIN_VALUE), -14);
        due.sentence("`int put(int shelf, int i, int v)`: Place i of a ROW becomes v: 1. BAD; -11; -12; -13.");
        ranges("put, shelf", rows, (x, a) -> x.put(a[0], 0, 5), BAD, 0, 3);
        ranges("put, place", rows, (x, a) -> x.put(0, a[0], 5), -13, 0, n - 1);
        ranges("put, number", rows, (x, a) -> x.put(3, 0, a[0]), BAD, Integer.MIN_VALUE, MOST);
        due.sentence("`long get(int shelf, int i)`: Place i of a ROW. VOID: no such SHELF, nothing, no ROW, no such place.");
        ranges("get", rows, (x, a) -> x.get(a[0], a[1]), VOID, 0, 3, 0, n - 1);
        due.sentence("`int film(int shelf, int k)`: A SHELF holds a ROW: the cells of STANDARD k, row by row: N. BAD.");
        ranges("film", rows, (x, a) -> x.film(a[0], a[1]), BAD, 0, 3, 0, d - 1);
        due.sentence("`int judge(int shelf)`: JUDGED by a ROW. BAD;");
        ranges("judge", rows, (x, a) -> x.judge(a[0]), BAD, 0, 3);
    }

    private static void tapeAndWhy() {
        due.sentence("`int feed(int letter)`: A byte comes behind THE TAPE's: how many it has. BAD;");
        ranges("feed", rows, (x, a) -> x.feed(a[0]), BAD, 32, 126);
        due.sentence("`int read(int r)`: A REGISTER becomes what THE TAPE, a TEXT, tells: its LENGTH. BAD;");
        ranges("read", rows, (x, a) -> x.read(a[0]), BAD, 0, 3);
        due.sentence("`int why(int i, int what)`: Of TROUBLE i (0 on) of WHY its sort (what 0), its number (1). BAD: i below"
            + " 0, what;");
        ranges("why", rows, (x, a) -> x.why(a[0], a[1]), BAD, 0, MOST, 0, 1);
        due.sentence("`int count(int what)`: 0 STEPS, 1 bytes of THE TAPE, 2 TROUBLES of WHY, 3 SHELVES that hold something,"
            + " 4 LENGTHS of all REGISTERS together. BAD.");
        ranges("count", rows, (x, a) -> x.count(a[0]), BAD, 0, 4);
    }

    /** The least and the greatest of each number, the others being their least. */
    private static void ranges(String name, Supplier<SwapTables> led, Call call, long refusal, int... ranges) {
        int[] least = new int[ranges.length / 2];
        for (int at = 0; at < least.length; at++) {
            least[at] = ranges[2 * at];
        }
        String shaped = Arrays.toString(shape) + " " + name;
        for (int at = 0; at < least.length; at++) {
            int greatest = ranges[2 * at + 1];
            for (int v : new int[] {least[at], greatest, least[at] - 1, greatest + 1, Integer.MIN_VALUE, MOST}) {
                int[] numbers = least.clone();
                numbers[at] = v;
                String told = shaped + ", number " + at + " is " + v;
                if (v >= least[at] && v <= greatest) {
                    due.holds(told + ": taken", call.on(led.get(), numbers) != refusal);
                } else {
                    twins.refuses(told, led, x -> call.on(x, numbers), refusal);
                }
            }
        }
    }
}

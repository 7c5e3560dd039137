import java.util.Arrays;
import java.util.function.Supplier;
import java.util.function.ToLongFunction;

/**
 * What is refused by the state of things: by what lies on a SHELF, by what is full or empty, by a TEXT; of several
 * refusals the first as the call's words name them; and that nothing changes then but where it is told. (Numbers out
 * of their ranges: RangesTest.)
 */
public final class RefusalsTest {
    private static final int BAD = SwapTables.BAD;
    private static final int NOT = SwapTables.NOT;
    private static final int FULL = SwapTables.FULL;
    private static final int STATE = SwapTables.STATE;
    private static final long VOID = SwapTables.VOID;
    private static final int NOTHING = -11;
    private static final int OTHER = -12;
    private static final int OUTSIDE = -13;
    private static final int BELOW = -14;
    private static final int LEAST = Integer.MIN_VALUE;
    private static final int MOST = Integer.MAX_VALUE;
    private static final String EIGHTY = "s1*".repeat(26) + "s2";

    private static final Due due = new Due("RefusalsTest");
    private static final Twins twins = new Twins(due);

    public static void main(String[] args) {
        theConstants();
        everyShapeAndNoOther();
        shapeIsRefused();
        swapsOfOneThing();
        byWhatLiesThere();
        which();
        whichOfSeveral();
        straight();
        vectorsRefuse();
        actsOfSeveral();
        actsBeyond();
        actsBeyondAtOneOfSix();
        rowsRefuse();
        rowsOfSeveral();
        notSoManySwaps();
        notSoManyNumbers();
        cantLose();
        noStep();
        fullTape();
        faults();
        wrong();
        refusedRegister();
        notSoManyTroubles();
        noImage();
        due.end();
    }

    /** On an object on which the shelves hold: 0 a VECTOR, 1 a FILLING, 2 a ROW of 2, 3 nothing. */
    private static void refuses(String call, ToLongFunction<SwapTables> refused, long answer) {
        twins.refuses(call, Twins::mixed, refused, answer);
    }

    private static Supplier<SwapTables> rowOn0(int[] shape, int... numbers) {
        return () -> {
            SwapTables x = Twins.busy(shape);
            Lead.row(x, 0, numbers);
            return x;
        };
    }

    private static void theConstants() {
        due.sentence("public static final int BAD = -1, NOT = -2, FULL = -3, STATE = -5;");
        due.is("BAD", BAD, -1);
        due.is("NOT", NOT, -2);
        due.is("FULL", FULL, -3);
        due.is("STATE", STATE, -5);
        due.sentence("VOID: the least long.");
        due.is("VOID", VOID, -9223372036854775808L);
    }

    private static void everyShapeAndNoOther() {
        due.sentence("SHAPE becomes rows a, b, c, d, e (0: none, and none below): D. BAD: it is none.");
        int taken = 0;
        for (int rows = 0; rows < 8 * 8 * 8 * 8; rows++) {
            SwapTables x = new SwapTables();
            for (int e = -1; e < 7; e++) {
                int[] tried = {rows / 512 - 1, rows / 64 % 8 - 1, rows / 8 % 8 - 1, rows % 8 - 1, e};
                int answer = Lead.toShape(x, tried);
                due.is(Arrays.toString(tried), answer == BAD ? 0 : 1, isShape(tried) ? 1 : 0);
                taken += answer == BAD ? 0 : 1;
            }
        }
        due.is("shapes of 1 .. 5 cells", taken, 1 + 2 + 3 + 5 + 7);
    }

    private static boolean isShape(int... rows) {
        int cells = 0;
        for (int i = 0; i < 5; i++) {
            if (rows[i] < 0 || (i > 0 && rows[i] > rows[i - 1])) {
                return false;
            }
            cells += rows[i];
        }
        return cells >= 1 && cells <= 5;
    }

    private static void shapeIsRefused() {
        int[][] none = {{}, {6}, {5, 1}, {3, 3}, {2, 2, 2}, {2, 2, 1, 1}, {2, 1, 1, 1, 1}, {1, 2}, {2, 1, 2}, {1, 1, 1, 2},
            {1, 1, 1, 1, 2}, {2, 0, 1}, {2, 1, 0, 1}, {2, 1, 0, 0, 1}, {0, 1}, {-1}, {2, -1}, {2, 1, -1}, {2, 1, 0, -1},
            {2, 1, 0, 0, -1}, {4, -1, -1}, {LEAST}, {MOST}, {5, LEAST}, {MOST, MOST, 2, 1}, {MOST, MOST, 2, 2, 1},
            {1 << 30, 1 << 30, 1 << 30, 1 << 30, 3}, {2, 1, LEAST, LEAST}, {LEAST, LEAST, 2, 1}};
        for (int[] rows : none) {
            refuses("shape" + Arrays.toString(rows), x -> Lead.toShape(x, rows), BAD);
        }
    }

    private static void swapsOfOneThing() {
        due.sentence("SWAP k (1 .. N less 1)");
        for (int k : new int[] {-1, 0, 1, 2, LEAST, MOST}) {
            twins.refuses("one thing: swap " + k, () -> Twins.busy(1), x -> x.swap(0, k), BAD);
        }
    }

    // ---- SHELVES

    /** Of what lies there: 0 nothing, 1 a VECTOR, 2 a ROW of no places. */
    private static SwapTables lying(int what) {
        SwapTables x = Twins.mixed();
        x.row(3, -1);
        if (what == 1) {
            x.vector(3, 1);
        } else if (what == 2) {
            x.row(3, 0);
        }
        return x;
    }

    private static void byWhatLiesThere() {
        due.sentence("SHELVES refuse by what lies there: -11 nothing, -12 something of the other sort, -13 a place outside,"
            + " -14 a size below 0.");
        ToLongFunction<SwapTables> which = x -> x.which(3);
        ToLongFunction<SwapTables> put = x -> x.put(3, 0, 1);
        ToLongFunction<SwapTables> judge = x -> x.judge(3);
        ToLongFunction<SwapTables> acts = x -> x.acts(3, 0);
        twins.refuses("which of nothing", () -> lying(0), which, NOTHING);
        twins.refuses("put on nothing", () -> lying(0), put, NOTHING);
        twins.refuses("judge nothing", () -> lying(0), judge, NOTHING);
        twins.refuses("acts on nothing", () -> lying(0), acts, NOTHING);
        twins.refuses("which of a vector", () -> lying(1), which, OTHER);
        twins.refuses("put on a vector", () -> lying(1), put, OTHER);
        twins.refuses("judge a vector", () -> lying(1), judge, OTHER);
        twins.refuses("acts on a row", () -> lying(2), acts, OTHER);
        twins.refuses("which of a row of 0", () -> lying(2), which, OUTSIDE);
        twins.refuses("put into a row of 0", () -> lying(2), put, OUTSIDE);
        twins.refuses("judge a row of 0", () -> lying(2), judge, NOT);
        for (int what = 0; what < 3; what++) {
            int lies = what;
            twins.refuses("a size below 0 on " + what, () -> lying(lies), x -> x.row(3, -2), BELOW);
            twins.refuses("straight of " + what, () -> lying(lies), x -> x.straight(3, 0), VOID);
            twins.refuses("get of " + what, () -> lying(lies), x -> x.get(3, 0), VOID);
            if (what != 1) {
                twins.refuses("give to " + what, () -> lying(lies), x -> x.give(3, 0, 1), VOID);
                twins.refuses("has of " + what, () -> lying(lies), x -> x.has(3, 0), VOID);
                twins.refuses("inner with " + what, () -> lying(lies), x -> x.inner(0, 3, 0), VOID);
                twins.refuses("inner of " + what, () -> lying(lies), x -> x.inner(3, 0, 0), VOID);
            }
        }
    }

    private static void which() {
        due.sentence("Which STANDARD one a ROW tells. BAD: shelf; -11; -12; -13: it has fewer than N places;"
            + " STATE: it tells no FILLING; NOT: it is not STANDARD.");
        refuses("nothing", x -> x.which(3), NOTHING);
        refuses("a vector", x -> x.which(0), OTHER);
        refuses("N less 1 places", x -> x.which(2), OUTSIDE);
        int[] shape = {2, 1};
        twins.refuses("a row of 0", rowOn0(shape), x -> x.which(0), OUTSIDE);
        int[][] none = {{1, 2, 2}, {1, 1, 3}, {3, 2, 3}, {0, 1, 2}, {1, 2, 4}, {1, 2, -3}, {1, 2, 35}, {1, 2, -29},
            {LEAST, 1, 2}, {1, 2, MOST}, {0, 0, 0}, {1, 2, 4, 3}};
        for (int[] row : none) {
            twins.refuses("no filling " + Arrays.toString(row), rowOn0(shape, row), x -> x.which(0), STATE);
        }
        for (int[] row : new int[][] {{2, 1, 3}, {2, 3, 1}, {3, 1, 2}, {3, 2, 1}, {3, 2, 1, 3}}) {
            twins.refuses("not standard " + Arrays.toString(row), rowOn0(shape, row), x -> x.which(0), NOT);
        }
        twins.refuses("of one thing: none", rowOn0(new int[] {1}, 2), x -> x.which(0), STATE);
        twins.refuses("of one thing: 0", rowOn0(new int[] {1}, 0), x -> x.which(0), STATE);
    }

    private static void whichOfSeveral() {
        due.sentence("of several the first as the call's words name them");
        Supplier<SwapTables> two = () -> {
            SwapTables x = Twins.busy(3, 2);
            x.vector(0, 0);
            Lead.row(x, 1, 7, 7);
            Lead.row(x, 2, 5, 4, 3, 2, 2);
            x.row(3, -1);
            return x;
        };
        twins.refuses("a vector has no places", two, x -> x.which(0), OTHER);
        twins.refuses("fewer places, and no filling", two, x -> x.which(1), OUTSIDE);
        twins.refuses("no filling, nor standard", two, x -> x.which(2), STATE);
        twins.refuses("nothing has no places", two, x -> x.which(3), NOTHING);
    }

    private static void straight() {
        due.sentence("STRAIGHT of the FILLING a ROW tells: the number of STANDARD j. VOID: BAD, nothing there, no ROW,"
            + " fewer than N places, no FILLING.");
        refuses("nothing", x -> x.straight(3, 0), VOID);
        refuses("a vector", x -> x.straight(0, 0), VOID);
        refuses("N less 1 places", x -> x.straight(2, 0), VOID);
        int[] shape = {2, 1};
        twins.refuses("a row of 0", rowOn0(shape), x -> x.straight(0, 0), VOID);
        int[][] none = {{1, 2, 2}, {0, 1, 2}, {1, 2, 4}, {1, 2, 35}, {1, LEAST, 3}, {MOST, 1, 2}, {1, 2, 4, 3}};
        for (int[] row : none) {
            twins.refuses("no filling " + Arrays.toString(row), rowOn0(shape, row), x -> x.straight(0, 1), VOID);
        }
        SwapTables x = rowOn0(shape, 3, 2, 1).get();
        due.holds("what is not standard is told, too", x.straight(0, 0) != VOID && x.straight(0, 1) != VOID);
    }

    private static void vectorsRefuse() {
        due.sentence("The number of STANDARD k in a VECTOR becomes v: what it was. VOID: BAD, nothing there, no VECTOR.");
        refuses("give to nothing", x -> x.give(3, 0, 1), VOID);
        refuses("give to a row", x -> x.give(1, 0, 1), VOID);
        refuses("give 1000", x -> x.give(0, 1, 1000), VOID);
        refuses("give -1000", x -> x.give(0, 1, -1000), VOID);
        due.sentence("The number of STANDARD k in a VECTOR. VOID: BAD, nothing there, no VECTOR.");
        refuses("has of nothing", x -> x.has(3, 0), VOID);
        refuses("has of a row", x -> x.has(1, 0), VOID);
        due.sentence("A VECTOR is ACTED on by a REGISTER: 1. BAD; -11; -12; STATE: a number would be beyond -999 .. 999.");
        refuses("acts on nothing", x -> x.acts(3, 0), NOTHING);
        refuses("acts on a row", x -> x.acts(1, 0), OTHER);
        due.sentence("PRODUCT of two VECTORS. VOID: BAD: shelves, part; nothing there, no VECTOR (either).");
        refuses("nothing as one", x -> x.inner(3, 0, 0), VOID);
        refuses("nothing as other", x -> x.inner(0, 3, 0), VOID);
        refuses("a row as one", x -> x.inner(1, 0, 1), VOID);
        refuses("a row as other", x -> x.inner(0, 1, 1), VOID);
    }

    private static void actsOfSeveral() {
        due.sentence("of several the first as the call's words name them");
        for (int r : new int[] {-1, 4}) {
            for (int shelf : new int[] {-1, 1, 3, 4}) {
                refuses("acts: no register " + r + " before what lies on " + shelf, x -> x.acts(shelf, r), BAD);
            }
        }
    }

    private static void actsBeyond() {
        due.sentence("Only a number of the result can be beyond -999 .. 999.");
        // (12) makes of a and b: a, and -a less b.
        int[][] beyond = {{999, 1}, {-999, -1}, {1, 999}, {-1, -999}, {500, 500}, {999, 999}, {-999, -999}};
        for (int[] numbers : beyond) {
            String call = "beyond " + numbers[0] + " " + numbers[1];
            twins.refuses(call, () -> acting("(12)", numbers, 2, 1), x -> x.acts(0, 0), STATE);
        }
        int[][] within = {{999, 0}, {998, 1}, {-998, -1}, {0, 999}, {0, -999}, {-999, 0}, {999, -999}, {-999, 999}};
        for (int[] numbers : within) {
            SwapTables x = acting("(12)", numbers, 2, 1);
            due.is("within " + numbers[0] + " " + numbers[1], x.acts(0, 0), 1);
            due.is("its number of 0", x.has(0, 0), numbers[0]);
            due.is("its number of 1", x.has(0, 1), -numbers[0] - numbers[1]);
        }
    }

    /** The numbers are taken so that just one of the six that are due is beyond, 1998 or -1998. */
    private static void actsBeyondAtOneOfSix() {
        due.sentence("A VECTOR is ACTED on by a REGISTER: 1. BAD; -11; -12; STATE: a number would be beyond -999 .. 999.");
        int[] last = {0, 999, 999};
        twins.refuses("at the last", () -> acting("s1", last, 3, 1, 1), x -> x.acts(0, 0), STATE);
        int[] first = {999, 999};
        twins.refuses("at the first", () -> acting("(14)", first, 3, 1, 1), x -> x.acts(0, 0), STATE);
        int[] lastWithin = {0, 999, -999};
        due.is("not at the last", acting("s1", lastWithin, 3, 1, 1).acts(0, 0), 1);
        int[] firstWithin = {999, -999};
        due.is("not at the first", acting("(14)", firstWithin, 3, 1, 1).acts(0, 0), 1);
    }

    private static SwapTables acting(String order, int[] numbers, int... shape) {
        SwapTables x = Twins.busy(shape);
        x.wipe();
        Lead.read(x, 0, order);
        Lead.vector(x, 0, numbers);
        return x;
    }

    private static void rowsRefuse() {
        due.sentence("Place i of a ROW becomes v: 1. BAD; -11; -12; -13.");
        refuses("put on nothing", x -> x.put(3, 0, 1), NOTHING);
        refuses("put on a vector", x -> x.put(0, 0, 1), OTHER);
        refuses("put behind the last place", x -> x.put(2, 2, 1), OUTSIDE);
        refuses("put ahead of the first place", x -> x.put(2, -1, 1), OUTSIDE);
        refuses("put at the greatest int", x -> x.put(2, MOST, 1), OUTSIDE);
        twins.refuses("put into a row of 0", rowOn0(new int[] {2, 1}), x -> x.put(0, 0, 1), OUTSIDE);
        due.sentence("Place i of a ROW. VOID: no such SHELF, nothing, no ROW, no such place.");
        refuses("get from nothing", x -> x.get(3, 0), VOID);
        refuses("get from a vector", x -> x.get(0, 0), VOID);
        refuses("get behind the last place", x -> x.get(2, 2), VOID);
        twins.refuses("get from a row of 0", rowOn0(new int[] {2, 1}), x -> x.get(0, 0), VOID);
        due.sentence("JUDGED by a ROW. BAD; -11; -12.");
        refuses("judge nothing", x -> x.judge(3), NOTHING);
        refuses("judge a vector", x -> x.judge(0), OTHER);
    }

    private static void rowsOfSeveral() {
        due.sentence("of several the first as the call's words name them");
        for (int shelf : new int[] {-1, 4}) {
            for (int n : new int[] {-2, 21, LEAST, MOST}) {
                refuses("row: no shelf " + shelf + " before a size of " + n, x -> x.row(shelf, n), BAD);
            }
            refuses("put: no shelf " + shelf + " before the place", x -> x.put(shelf, -1, 1), BAD);
        }
        for (int place : new int[] {-1, 99}) {
            refuses("put: nothing there, before place " + place, x -> x.put(3, place, 1), NOTHING);
            refuses("put: a vector, before place " + place, x -> x.put(0, place, 1), OTHER);
        }
        due.sentence("A SHELF holds a ROW of n ints (0 .. 20), all 0, or nothing (n -1): 1. BAD: shelf, n above 20;"
            + " -14: n below -1.");
        refuses("21", x -> x.row(1, 21), BAD);
        refuses("-2", x -> x.row(1, -2), BELOW);
    }

    // ---- NOT

    private static void notSoManySwaps() {
        due.sentence("The i-th SWAP (0 on) of a REGISTER's WORD. BAD: r, i below 0; NOT: it has not so many.");
        refuses("at the length", x -> x.word(0, (int) x.told(0, 0)), NOT);
        refuses("at the greatest int", x -> x.word(0, MOST), NOT);
        refuses("of what stays", x -> x.word(3, 0), NOT);
        refuses("no register, before not so many", x -> x.word(4, 99), BAD);
        refuses("i below 0 of an empty word", x -> x.word(3, -1), BAD);
        twins.refuses("of one thing", () -> Twins.busy(1), x -> x.word(0, 0), NOT);
    }

    private static void notSoManyNumbers() {
        due.sentence("i -1: how many it has; k -1: how many PARTITIONS there are (i does not matter)."
            + " BAD: k, i below -1; NOT: it has not so many.");
        int[] sizes = {1, 2, 3};
        for (int k = 0; k < 3; k++) {
            int at = k;
            refuses("behind the last number of " + k, x -> x.partition(at, sizes[at]), NOT);
            refuses("far behind it", x -> x.partition(at, MOST), NOT);
            refuses("i below -1", x -> x.partition(at, -2), BAD);
        }
        twins.refuses("of 1, 1, 1, 1, 1 the sixth", () -> Twins.busy(5), x -> x.partition(6, 5), NOT);
        refuses("no such k, before not so many", x -> x.partition(3, 99), BAD);
        refuses("k below -1 is no -1", x -> x.partition(-2, -1), BAD);
    }

    private static void cantLose() {
        due.sentence("of a row how many. BAD: no row of it; NOT: it can't lose its last cell.");
        twins.refuses("2, 2: the first", () -> Twins.busy(2, 2), x -> x.branch(0), NOT);
        twins.refuses("2, 2: none below", () -> Twins.busy(2, 2), x -> x.branch(2), BAD);
        for (int row = 0; row < 4; row++) {
            int at = row;
            twins.refuses("a column's row " + row, () -> Twins.busy(1, 1, 1, 1, 1), x -> x.branch(at), NOT);
        }
        twins.refuses("a column has no sixth row", () -> Twins.busy(1, 1, 1, 1, 1), x -> x.branch(5), BAD);
        twins.refuses("of 5 there is one row", () -> Twins.busy(5), x -> x.branch(1), BAD);
    }

    // ---- STEPS, THE TAPE, WHY, THE IMAGE

    private static void noStep() {
        due.sentence("The latest STEP is taken BACK: how many can still be. STATE: there is none.");
        Supplier<SwapTables> none = () -> {
            SwapTables x = Twins.mixed();
            for (int i = 0; i < 10; i++) {
                x.back();
            }
            return x;
        };
        twins.refuses("all are back", none, SwapTables::back, STATE);
        twins.refuses("a new object", SwapTables::new, SwapTables::back, STATE);
    }

    private static void fullTape() {
        due.sentence("A byte comes behind THE TAPE's: how many it has. BAD; FULL: it has 80.");
        Supplier<SwapTables> full = () -> {
            SwapTables x = Lead.shape(2, 1);
            Lead.feed(x, EIGHTY);
            return x;
        };
        due.is("80 are there", full.get().count(1), 80);
        twins.refuses("one more", full, x -> x.feed('e'), FULL);
        twins.refuses("one more of the least", full, x -> x.feed(32), FULL);
        twins.refuses("one more of the greatest", full, x -> x.feed(126), FULL);
        for (int letter : new int[] {31, 127, 0, -1, 256 + 'e', LEAST, MOST}) {
            twins.refuses("no byte " + letter + ", before full", full, x -> x.feed(letter), BAD);
        }
        SwapTables x = full.get();
        x.feed('s');
        due.is("what was refused is not there", x.read(0), 1);
        due.is("behind a read there is room again", x.feed('s'), 1);
    }

    /** By a FAULT THE TAPE is empty and WHY told anew; all else stays. */
    private static void faults() {
        due.sentence("THE TAPE is empty behind each call that reads it, by a FAULT and by what is WRONG, too"
            + " (BAD of the REGISTER: it stays).");
        for (String text : new String[] {"", "s1*", "s1*(123)x", "~[s1", "s6", " "}) {
            readRefused(text, -100 - (text.equals("s1*(123)x") ? 8 : text.equals("s6") ? 1 : text.trim().length()));
        }
        due.sentence("the whole text is looked at for a FAULT first");
        readRefused("s5*", -103);
        readRefused("(14)*s5*(11)*~", -114);
        readRefused("(1111", -105);
        readRefused("[s3", -103);
    }

    private static void wrong() {
        due.sentence("A figure that is no SWAP, a number above N, or one that a cycle has already: that is WRONG: NOT;");
        for (String text : new String[] {"s3", "s1*s5", "(14)", "(22)", "~[(12)*(1232)]", "(123)*(51)"}) {
            readRefused(text, NOT);
        }
    }

    private static void readRefused(String text, int answer) {
        SwapTables x = Twins.mixed();
        x.wipe();
        Lead.feed(x, text);
        due.is("read " + text, x.read(2), answer);
        due.is("the tape behind " + text, x.count(1), 0);
        SwapTables twin = Twins.mixed();
        twin.wipe();
        due.same("what is seen behind " + text, Look.throughAllButWhy(x), Look.throughAllButWhy(twin));
    }

    private static void refusedRegister() {
        due.sentence("A REGISTER becomes what THE TAPE, a TEXT, tells: its LENGTH. BAD; -100 less the FAULT; NOT: WRONG.");
        for (String text : new String[] {"", "s2", "s1*", "s5", "[[[["}) {
            for (int r : new int[] {-1, 4, LEAST, MOST}) {
                Supplier<SwapTables> fed = () -> {
                    SwapTables x = Twins.mixed();
                    x.wipe();
                    Lead.feed(x, text);
                    return x;
                };
                twins.refuses("no register " + r + " for " + text, fed, x -> x.read(r), BAD);
            }
        }
    }

    private static void notSoManyTroubles() {
        due.sentence("Of TROUBLE i (0 on) of WHY its sort (what 0), its number (1). BAD: i below 0, what;"
            + " NOT: there are not so many.");
        SwapTables told = Twins.mixed();
        due.is("three", told.count(2), 3);
        due.is("the last", told.why(2, 0), 4);
        for (int what = 0; what < 2; what++) {
            int asked = what;
            refuses("behind the last, " + what, x -> x.why(3, asked), NOT);
            refuses("far behind it, " + what, x -> x.why(MOST, asked), NOT);
            twins.refuses("a new object, " + what, SwapTables::new, x -> x.why(0, asked), NOT);
        }
        for (int what : new int[] {-1, 2}) {
            refuses("what " + what + " before not so many", x -> x.why(3, what), BAD);
            refuses("what " + what + " and i below 0", x -> x.why(-1, what), BAD);
            twins.refuses("of none what " + what, SwapTables::new, x -> x.why(0, what), BAD);
        }
    }

    private static void noImage() {
        due.sentence("All is as THE IMAGE: N. STATE: there is none.");
        Supplier<SwapTables> none = () -> {
            SwapTables x = Lead.read(Lead.shape(3, 1), 1, "(1234)");
            Lead.read(x, 0, "s4");
            x.vector(0, 2);
            x.row(1, 3);
            Lead.feed(x, "s2");
            return x;
        };
        twins.refuses("no image", none, SwapTables::restore, STATE);
        twins.refuses("a new object", SwapTables::new, SwapTables::restore, STATE);
    }
}

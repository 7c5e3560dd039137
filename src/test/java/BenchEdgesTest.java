/** SHELVES, STEPS and THE IMAGE (promises 21 to 31 and 36 to 38) at the edges that the document names. */
public final class BenchEdgesTest {
    private static final int NOT = SwapTables.NOT;
    private static final int STATE = SwapTables.STATE;
    private static final long VOID = SwapTables.VOID;
    private static final int LEAST = Integer.MIN_VALUE;
    private static final int MOST = Integer.MAX_VALUE;

    private static final Due due = new Due("BenchEdgesTest");

    public static void main(String[] args) {
        vectorsAnew();
        numbersOfVectors();
        vectorOfOne();
        actsOfWhatStays();
        actsOnEdges();
        productsOfExtremes();
        productOfNothing();
        rowsOfAllSizes();
        rowsAnew();
        nothingAnew();
        placesOfRows();
        films();
        judgedNone();
        judgedNoSwap();
        judgedNoLonger();
        judgedBeyondN();
        whatIsAStep();
        tenSteps();
        theEldestIsNone();
        roomAgainBehindBack();
        whatIsNoStep();
        noStepAtTen();
        whatLeavesNoSteps();
        imageOfNothing();
        imageIsACopy();
        imageOfAll();
        imageAnew();
        restoreLeaves();
        counts();
        due.end();
    }

    // ---- VECTORS

    private static void vectorsAnew() {
        due.sentence("A SHELF holds a VECTOR, all 0 but 1 for STANDARD k: D.");
        SwapTables x = Lead.shape(3, 1, 1);
        x.row(0, 20);
        for (int i = 0; i < 20; i++) {
            x.put(0, i, 7);
        }
        Lead.vector(x, 3, 9, 9, 9, 9, 9, 9);
        for (int k : new int[] {0, 5}) {
            for (int shelf : new int[] {0, 3}) {
                due.is("over what lies there", x.vector(shelf, k), 6);
                for (int j = 0; j < 6; j++) {
                    due.is("vector " + k + " at " + j, x.has(shelf, j), j == k ? 1 : 0);
                }
                due.is("no seventh", x.has(shelf, 6), VOID);
                due.is("no row any more", x.get(shelf, 0), VOID);
            }
        }
    }

    private static void numbersOfVectors() {
        due.sentence("a VECTOR (D whole numbers, one for each STANDARD one, -999 .. 999)");
        SwapTables x = Lead.shape(3, 1, 1);
        x.vector(2, 0);
        int[] given = {999, -999, 0, 998, -998, 999};
        for (int k = 0; k < 6; k++) {
            due.is("what it was", x.give(2, k, given[k]), k == 0 ? 1 : 0);
            due.is("1000 is refused", x.give(2, k, 1000), VOID);
            due.is("-1000 is refused", x.give(2, k, -1000), VOID);
            due.is("the least int is refused", x.give(2, k, LEAST), VOID);
            due.is("the greatest int is refused", x.give(2, k, MOST), VOID);
        }
        for (int k = 0; k < 6; k++) {
            due.is("has " + k, x.has(2, k), given[k]);
            due.is("what it was, " + k, x.give(2, k, -given[k]), given[k]);
        }
    }

    private static void vectorOfOne() {
        due.sentence("a VECTOR (D whole numbers, one for each STANDARD one, -999 .. 999)");
        SwapTables x = Lead.shape(1, 1);
        due.is("D is 1", x.vector(0, 0), 1);
        due.is("its number", x.give(0, 0, -999), 1);
        due.is("no second", x.has(0, 1), VOID);
        due.is("nor to give", x.give(0, 1, 0), VOID);
        x.swap(0, 1);
        due.is("acts by SIGN", x.acts(0, 0), 1);
        due.is("999", x.has(0, 0), 999);
        due.is("acts again", x.acts(0, 0), 1);
        due.is("-999", x.has(0, 0), -999);
        due.is("product", x.inner(0, 0, 0), 998001);
        due.is("product, below", x.inner(0, 0, 1), 1);
    }

    private static void actsOfWhatStays() {
        due.sentence("it becomes, for each j, the sum over k of its number of k times WHOLE of k and j.");
        SwapTables x = Lead.shape(3, 1, 1);
        int[] extremes = {999, -999, 999, -999, 999, -999};
        Lead.vector(x, 1, extremes);
        due.is("by what stays", x.acts(1, 3), 1);
        for (int k = 0; k < 6; k++) {
            due.is("at " + k, x.has(1, k), extremes[k]);
        }
        Lead.vector(x, 1, 0);
        Lead.read(x, 0, "(15)*(24)");
        due.is("all 0", x.acts(1, 0), 1);
        due.is("stays 0", x.has(1, 0), 0);
        due.is("it is no step", x.count(0), 1);
    }

    private static void actsOnEdges() {
        due.sentence("STATE: a number would be beyond -999 .. 999.");
        // (13) makes of a and b: -a less b, and b.
        int[][] numbers = {{998, 1}, {999, 0}, {-998, -1}, {-999, 0}, {0, 999}, {0, -999}, {500, 499}, {999, -999}};
        for (int[] v : numbers) {
            SwapTables x = Lead.read(new SwapTables(), 0, "(13)");
            Lead.vector(x, 0, v);
            due.is("within", x.acts(0, 0), 1);
            due.is("number of 0", x.has(0, 0), -v[0] - v[1]);
            due.is("number of 1", x.has(0, 1), v[1]);
        }
        for (int[] v : new int[][] {{999, 1}, {-999, -1}, {1, 999}, {-1, -999}, {500, 500}, {-999, -999}}) {
            SwapTables x = Lead.read(new SwapTables(), 0, "(13)");
            Lead.vector(x, 0, v);
            due.is("beyond", x.acts(0, 0), STATE);
            due.is("number of 0 stays", x.has(0, 0), v[0]);
            due.is("number of 1 stays", x.has(0, 1), v[1]);
        }
    }

    private static void productsOfExtremes() {
        due.sentence("PRODUCT of two VECTORS: the sum over k of both numbers times NORM of k (as if they were of seminormal"
            + " axes).");
        // The NORMS of 4, 1: 1, 15 by 16, 5 by 6, 5 by 8: together 163 by 48, and 998001 is 3 times 332667.
        SwapTables x = Lead.shape(4, 1);
        Lead.vector(x, 0, 999, 999, 999, 999);
        Lead.vector(x, 3, -999, -999, -999, -999);
        due.is("the greatest", x.inner(0, 0, 0), 163L * 332667);
        due.is("the greatest, below", x.inner(0, 0, 1), 16);
        due.is("the least", x.inner(0, 3, 0), -163L * 332667);
        due.is("the least, below", x.inner(3, 0, 1), 16);
        due.is("both below 0", x.inner(3, 3, 0), 163L * 332667);
    }

    private static void productOfNothing() {
        due.sentence("0 as 0 by 1.");
        SwapTables x = Lead.shape(4, 1);
        Lead.vector(x, 0, 0);
        Lead.vector(x, 1, 1, 1, 1, 1);
        due.is("of all 0", x.inner(0, 1, 0), 0);
        due.is("of all 0, below", x.inner(0, 1, 1), 1);
        Lead.vector(x, 0, 0, 0, 3, -4);
        due.is("3 times 5 by 6 less 4 times 5 by 8", x.inner(1, 0, 0), 0);
        due.is("below", x.inner(1, 0, 1), 1);
    }

    // ---- ROWS

    private static void rowsOfAllSizes() {
        due.sentence("or a ROW (0 .. 20 ints).");
        SwapTables x = new SwapTables();
        for (int n = 0; n <= 20; n++) {
            due.is("row of " + n, x.row(2, n), 1);
            due.is("it is something", x.count(3), 1);
            if (n > 0) {
                due.is("its last place", x.put(2, n - 1, 5), 1);
                due.is("is there", x.get(2, n - 1), 5);
            }
            due.is("no place behind it", x.get(2, n), VOID);
            due.is("nor to put", x.put(2, n, 5), -13);
            due.is("none ahead", x.get(2, -1), VOID);
        }
        due.is("21", x.row(2, 21), SwapTables.BAD);
        due.is("of 20 still", x.get(2, 19), 5);
    }

    private static void rowsAnew() {
        due.sentence("A SHELF holds a ROW of n ints (0 .. 20), all 0, or nothing (n -1): 1.");
        SwapTables x = Lead.shape(3, 1, 1);
        Lead.vector(x, 0, 9, 9, 9, 9, 9, 9);
        x.row(1, 20);
        for (int i = 0; i < 20; i++) {
            x.put(1, i, LEAST + i);
        }
        for (int shelf = 0; shelf < 2; shelf++) {
            due.is("over what lies there", x.row(shelf, 20), 1);
            for (int i = 0; i < 20; i++) {
                due.is("place " + i, x.get(shelf, i), 0);
            }
            due.is("no vector", x.has(shelf, 0), VOID);
        }
        Lead.row(x, 2, 4, 5, 6);
        x.row(2, 1);
        x.row(2, 3);
        due.is("what was behind a shorter one is gone", x.get(2, 2), 0);
    }

    private static void nothingAnew() {
        due.sentence("or nothing (n -1): 1.");
        SwapTables x = new SwapTables();
        due.is("nothing over nothing", x.row(0, -1), 1);
        due.is("nothing is there", x.judge(0), -11);
        x.vector(0, 0);
        x.row(3, 0);
        due.is("two", x.count(3), 2);
        due.is("over a vector", x.row(0, -1), 1);
        due.is("has", x.has(0, 0), VOID);
        due.is("acts", x.acts(0, 0), -11);
        due.is("over a row of 0", x.row(3, -1), 1);
        due.is("judge", x.judge(3), -11);
        due.is("none", x.count(3), 0);
    }

    private static void placesOfRows() {
        due.sentence("Place i of a ROW becomes v: 1.");
        SwapTables x = new SwapTables();
        x.row(0, 20);
        int[] numbers = {LEAST, MOST, -1, 0, 1000};
        for (int place : new int[] {0, 19}) {
            for (int v : numbers) {
                due.is("put " + v, x.put(0, place, v), 1);
                due.is("get " + v, x.get(0, place), v);
            }
        }
        for (int i = 1; i < 19; i++) {
            due.is("others stay 0", x.get(0, i), 0);
        }
    }

    private static void films() {
        due.sentence("A SHELF holds a ROW: the cells of STANDARD k, row by row: N.");
        SwapTables x = Lead.shape(2, 2, 1);
        x.row(0, 20);
        x.put(0, 5, 4);
        x.vector(3, 4);
        int[][] cells = {{1, 2, 3, 4, 5}, {1, 4, 2, 5, 3}};
        for (int last = 0; last < 2; last++) {
            for (int shelf : new int[] {0, 3}) {
                due.is("film", x.film(shelf, 4 * last), 5);
                for (int i = 0; i < 5; i++) {
                    due.is("cell " + i, x.get(shelf, i), cells[last][i]);
                }
                due.is("N places and no more", x.get(shelf, 5), VOID);
                due.is("no vector", x.has(shelf, 0), VOID);
            }
        }
        SwapTables one = Lead.shape(1);
        due.is("one cell", one.film(0, 0), 1);
        due.is("1", one.get(0, 0), 1);
        due.is("no second", one.get(0, 1), VOID);
    }

    private static int judged(int n, int... numbers) {
        SwapTables x = Lead.shape(n);
        Lead.row(x, 3, numbers);
        return x.judge(3);
    }

    private static void judgedNone() {
        due.sentence("by which LENGTH of the product so far is no more; -2: none.");
        for (int n = 1; n <= 5; n++) {
            due.is("a row of 0, N is " + n, judged(n), NOT);
        }
        due.is("one swap", judged(2, 1), NOT);
        due.is("the longest of 3", judged(3, 2, 1, 2), NOT);
        due.is("the longest of 5", judged(5, 4, 3, 4, 2, 3, 4, 1, 2, 3, 4), NOT);
    }

    private static void judgedNoSwap() {
        due.sentence("JUDGED: the first place (from 0) at which what is told is no SWAP");
        for (int n = 1; n <= 5; n++) {
            for (int number : new int[] {0, n, n + 1, -1, 16, 32, LEAST, MOST}) {
                due.is("at first " + number + ", N is " + n, judged(n, number), 0);
                if (n > 2) {
                    due.is("behind two " + number, judged(n, 1, 2, number, 1), 2);
                }
            }
        }
        due.is("of one thing no number is a swap", judged(1, 1), 0);
        due.is("the first of two", judged(3, 1, 9, 0), 1);
    }

    private static void judgedNoLonger() {
        due.sentence("or by which LENGTH of the product so far is no more;");
        due.is("twice", judged(2, 1, 1), 1);
        due.is("twice, 4 of 5", judged(5, 4, 4), 1);
        due.is("as a braid", judged(3, 2, 1, 2, 1), 3);
        due.is("behind others", judged(5, 1, 3, 4, 1, 2), 3);
        due.is("the first of two", judged(4, 1, 1, 9), 1);
        due.is("no longer ahead of no swap", judged(4, 3, 3, 3, 3), 1);
    }

    private static void judgedBeyondN() {
        due.sentence("All numbers of a ROW are JUDGED, however many there are.");
        due.is("behind N", judged(3, 1, 2, 1, 9), 3);
        due.is("10, the longest, and one more", judged(5, 1, 2, 1, 3, 2, 1, 4, 3, 2, 1, 3), 10);
        due.is("20", judged(5, 1, 2, 1, 3, 2, 1, 4, 3, 2, 1, 1, 1, 1, 1, 1, 1, 1, 1, 1, 1), 10);
        due.is("0 behind the longest", judged(5, 4, 3, 4, 2, 3, 4, 1, 2, 3, 4, 0), 10);
        due.is("zeros that were not put are numbers", judged(5, 1, 0), 1);
    }

    // ---- STEPS

    private static void whatIsAStep() {
        due.sentence("STEPS: what swap(), times(), turn(), read() (of a REGISTER) made otherwise can be taken BACK");
        SwapTables x = Lead.shape(3, 1, 1);
        x.swap(0, 4);
        due.is("swap", x.count(0), 1);
        x.times(1, 0, 0);
        x.times(1, 0, 1);
        due.is("times", x.count(0), 2);
        Lead.read(x, 2, "(123)");
        due.is("read", x.count(0), 3);
        x.turn(2);
        due.is("turn", x.count(0), 4);
        x.vector(0, 0);
        x.give(0, 0, 5);
        x.acts(0, 2);
        x.row(1, 5);
        x.put(1, 0, 3);
        x.film(2, 0);
        x.image();
        x.feed('s');
        x.wipe();
        due.is("nothing else", x.count(0), 4);
        for (int left = 3; left >= 0; left--) {
            due.is("back", x.back(), left);
        }
        due.is("shelves stay as they are", x.count(3), 3);
        due.is("what was put stays", x.get(1, 0), 3);
    }

    private static void tenSteps() {
        due.sentence("can be taken BACK, the latest first, 10 at most (then the eldest is none any more).");
        SwapTables x = Lead.shape(5);
        for (int i = 0; i < 10; i++) {
            x.swap(i % 4, 1 + i / 4);
            due.is("steps", x.count(0), i + 1);
        }
        for (int left = 9; left >= 0; left--) {
            due.is("back", x.back(), left);
            due.is("the latest first: " + left, x.told(left % 4, 0), left / 4);
            due.is("steps", x.count(0), left);
        }
        due.is("all as at first", x.count(4), 0);
        due.is("none", x.back(), STATE);
    }

    private static void theEldestIsNone() {
        due.sentence("10 at most (then the eldest is none any more)");
        for (int more = 1; more <= 12; more++) {
            SwapTables x = Lead.shape(5);
            int[] lengths = new int[11 + more];
            for (int i = 0; i < 10 + more; i++) {
                Lead.read(x, i % 3, i % 2 == 0 ? "(15)" : "s" + (1 + i % 4));
                lengths[i + 1] = x.count(4);
                due.is("no more than ten", x.count(0), Math.min(10, i + 1));
            }
            for (int left = 9; left >= 0; left--) {
                due.is("back", x.back(), left);
                due.is("lengths as before it", x.count(4), lengths[left + more]);
            }
            due.is("none", x.back(), STATE);
            due.is("the eldest stands", x.count(4), lengths[more]);
        }
    }

    private static void roomAgainBehindBack() {
        due.sentence("The latest STEP is taken BACK: how many can still be.");
        SwapTables x = new SwapTables();
        x.swap(3, 2);
        for (int i = 0; i < 9; i++) {
            x.swap(0, 1 + i % 2);
        }
        x.back();
        x.back();
        x.swap(1, 1);
        x.swap(1, 2);
        due.is("ten again", x.count(0), 10);
        for (int left = 9; left >= 0; left--) {
            due.is("back", x.back(), left);
        }
        due.is("the first one, too", x.told(3, 0), 0);
        x.swap(2, 1);
        due.is("what is taken back is no step itself", x.back(), 0);
        due.is("none", x.back(), STATE);
    }

    private static void whatIsNoStep() {
        due.sentence("A call by which a REGISTER is what it was is no STEP.");
        SwapTables x = Lead.read(Lead.shape(4), 1, "(12)*(34)");
        due.is("one", x.count(0), 1);
        due.is("turn", x.turn(1), 2);
        due.is("times what stays", x.times(1, 1, 0), 2);
        due.is("times what stays, ahead", x.times(1, 0, 1), 2);
        due.is("of others", x.times(2, 1, 1), 0);
        Lead.feed(x, "s3*s1");
        due.is("read", x.read(1), 2);
        Lead.feed(x, "e");
        due.is("read of what stays", x.read(3), 0);
        due.is("still one", x.count(0), 1);
        due.is("a cycle of three, turned, is another", Lead.read(x, 2, "(123)").turn(2), 2);
        due.is("three", x.count(0), 3);
        due.is("a swap always makes another", x.swap(0, 3), 1);
        due.is("and the same again", x.swap(0, 3), 0);
        due.is("five", x.count(0), 5);
    }

    private static void noStepAtTen() {
        due.sentence("A call by which a REGISTER is what it was is no STEP.");
        SwapTables x = new SwapTables();
        x.swap(3, 1);
        for (int i = 0; i < 9; i++) {
            x.swap(0, 1);
        }
        x.turn(0);
        x.times(1, 2, 2);
        Lead.read(x, 2, "e");
        Lead.read(x, 2, "s3");
        x.swap(0, 3);
        x.swap(4, 1);
        for (int left = 9; left >= 0; left--) {
            due.is("back", x.back(), left);
        }
        due.is("the eldest is still one", x.told(3, 0), 0);
    }

    private static void whatLeavesNoSteps() {
        due.sentence("shape(), restore() leave none.");
        for (int steps : new int[] {0, 1, 10}) {
            SwapTables x = new SwapTables();
            x.image();
            for (int i = 0; i < steps; i++) {
                x.swap(0, 1);
            }
            x.restore();
            due.is("behind restore", x.count(0), 0);
            due.is("no way back behind it", x.back(), STATE);
            for (int i = 0; i < steps; i++) {
                x.swap(0, 1);
            }
            x.shape(3, 0, 0, 0, 0);
            due.is("behind shape", x.count(0), 0);
            due.is("no way back behind that", x.back(), STATE);
            x.swap(1, 2);
            due.is("a step of its own", x.back(), 0);
        }
    }

    // ---- THE IMAGE

    private static void imageOfNothing() {
        due.sentence("THE IMAGE: SHAPE, REGISTERS, SHELVES.");
        SwapTables x = new SwapTables();
        due.is("none yet", x.restore(), STATE);
        due.is("of a new object", x.image(), 3);
        Lead.toShape(x, 3, 1, 1);
        for (int r = 0; r < 4; r++) {
            x.swap(r, 4);
            x.vector(r, 5);
        }
        due.is("restore", x.restore(), 3);
        due.is("D", x.of(2), 2);
        due.is("no shelf", x.count(3), 0);
        due.is("no length", x.count(4), 0);
        due.is("no way back", x.back(), STATE);
    }

    private static void imageIsACopy() {
        due.sentence("All is as THE IMAGE: N.");
        SwapTables x = Lead.read(new SwapTables(), 0, "(123)");
        Lead.vector(x, 1, 7, -7);
        Lead.row(x, 2, 1, 2);
        x.image();
        for (int again = 0; again < 3; again++) {
            x.give(1, 0, 5);
            x.put(2, 1, 9);
            x.swap(0, 1);
            x.film(3, 1);
            due.is("restore " + again, x.restore(), 3);
            due.is("the vector", x.has(1, 0), 7);
            due.is("the row", x.get(2, 1), 2);
            due.order("the register", x, 0, 2, 3, 1);
            due.is("nothing", x.judge(3), -11);
            due.is("shelves", x.count(3), 2);
        }
    }

    private static void imageOfAll() {
        due.sentence("All is as THE IMAGE: N.");
        SwapTables x = Lead.shape(3, 1, 1);
        for (int r = 0; r < 4; r++) {
            Lead.read(x, r, "(15)*(24)");
        }
        Lead.vector(x, 0, 999, -999, 1, 2, 3, -999);
        x.row(1, 20);
        for (int i = 0; i < 20; i++) {
            x.put(1, i, i * i);
        }
        x.row(2, 0);
        due.is("N", x.image(), 5);
        due.is("an image leaves the steps", x.count(0), 4);
        Lead.toShape(x, 1);
        due.is("vectors are gone", x.count(3), 2);
        x.row(0, -1);
        x.row(1, 1);
        x.vector(2, 0);
        x.row(3, 3);
        due.is("restore", x.restore(), 5);
        due.is("D", x.of(2), 6);
        due.is("lengths", x.count(4), 40);
        due.is("shelves", x.count(3), 3);
        int[] numbers = {999, -999, 1, 2, 3, -999};
        for (int k = 0; k < 6; k++) {
            due.is("number " + k, x.has(0, k), numbers[k]);
        }
        for (int i = 0; i < 20; i++) {
            due.is("place " + i, x.get(1, i), i * i);
        }
        due.is("the row of 0", x.judge(2), NOT);
        due.is("nothing", x.judge(3), -11);
        due.is("tables are of its shape", x.norm(5, 0), 5);
        due.is("tables are of its shape, below", x.norm(5, 1), 9);
    }

    private static void imageAnew() {
        due.sentence("THE IMAGE is taken: N.");
        SwapTables x = new SwapTables();
        x.vector(0, 0);
        due.is("the first", x.image(), 3);
        Lead.toShape(x, 1);
        due.is("another", x.image(), 1);
        Lead.toShape(x, 5);
        due.is("the latest", x.restore(), 1);
        due.is("its vector was gone then", x.count(3), 0);
        Lead.toShape(x, 2, 2);
        due.is("it stays behind restore and shape", x.restore(), 1);
    }

    private static void restoreLeaves() {
        due.sentence("restore() leaves THE TAPE, WHY.");
        SwapTables x = new SwapTables();
        Lead.feed(x, "s1");
        x.image();
        x.wipe();
        due.text(x, "[s3]", NOT);
        Lead.feed(x, "s2*s1");
        due.is("restore", x.restore(), 3);
        due.is("the tape is as fed", x.count(1), 5);
        due.troubles("why is as told", x, 2, 0, 4, 2);
        due.is("and read", x.read(0), 2);
        due.order("as fed", x, 0, 3, 1, 2);
        x.restore();
        due.is("an empty one stays empty", x.count(1), 0);
    }

    private static void counts() {
        due.sentence("0 STEPS, 1 bytes of THE TAPE, 2 TROUBLES of WHY, 3 SHELVES that hold something, 4 LENGTHS of all"
            + " REGISTERS together.");
        SwapTables x = Lead.shape(5);
        for (int held = 0; held < 4; held++) {
            due.is("shelves", x.count(3), held);
            due.is("lengths", x.count(4), 10 * held);
            x.row(held, 0);
            Lead.read(x, held, "(15)*(24)");
        }
        due.is("four shelves", x.count(3), 4);
        due.is("40", x.count(4), 40);
        for (int i = 0; i < 12; i++) {
            due.is("steps", x.count(0), Math.min(10, 4 + i));
            x.swap(0, 1);
        }
        for (int i = 0; i < 82; i++) {
            due.is("bytes", x.count(1), Math.min(80, i));
            x.feed('~');
        }
        x.read(0);
        due.is("troubles", x.count(2), 81);
    }
}

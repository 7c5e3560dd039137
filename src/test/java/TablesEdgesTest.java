import java.util.Arrays;

/** SHAPES, ORDERS and what is told of them (promises 1 to 20) at the edges that the document names. */
public final class TablesEdgesTest {
    private static final int BAD = SwapTables.BAD;
    private static final int NOT = SwapTables.NOT;
    private static final long VOID = SwapTables.VOID;
    private static final String[] LONGEST = {"", "e", "(12)", "(13)", "(14)*(23)", "(15)*(24)"};
    private static final int[] PARTITIONS = {0, 1, 2, 3, 5, 7};
    /** Where those of N begin in Lead.SHAPES. */
    private static final int[] BEGIN = {0, 0, 1, 3, 6, 11, 18};

    private static final Due due = new Due("TablesEdgesTest");

    public static void main(String[] args) {
        newObject();
        objectsDoNotShare();
        theLastCall();
        shapesThatAreTaken();
        shapeThatItIs();
        vectorsGoRowsStay();
        hooksAndContents();
        cellsUnderALongerRow();
        standardOnes();
        fillings();
        standardFillings();
        whichOfEach();
        registersAtFirst();
        oneRegisterEach();
        eachOnce();
        swaps();
        swapIsDoneFirst();
        lengths();
        signs();
        words();
        types();
        partitions();
        partitionsOfMinusOne();
        straightOfStandard();
        straightOfOneColumn();
        wholeOfWhatStays();
        fractionsOfNeighbours();
        fractionsInLowestTerms();
        norms();
        characters();
        branches();
        due.end();
    }

    private static SwapTables bench(int s) {
        return Lead.shape(Lead.SHAPES[s]);
    }

    private static String name(int s) {
        return Arrays.toString(Lead.SHAPES[s]);
    }

    // ---- A new object, SHAPE

    private static void newObject() {
        due.sentence("N cells in all, N 1 .. 5; 2, 1 at first");
        SwapTables x = new SwapTables();
        int[] of = {3, 2, 2, 3, 1};
        for (int what = 0; what < of.length; what++) {
            due.is("of " + what, x.of(what), of[what]);
        }
        due.is("a cell 0, 1", x.cell(0, 1, 1), 1);
        due.is("no cell 1, 1", x.cell(1, 1, 1), VOID);
        due.sentence("SHELVES 0 .. 3 hold nothing (at first)");
        for (int shelf = 0; shelf < 4; shelf++) {
            due.is("which", x.which(shelf), -11);
            due.is("judge", x.judge(shelf), -11);
            due.is("put", x.put(shelf, 0, 0), -11);
            due.is("acts", x.acts(shelf, 0), -11);
            due.is("get", x.get(shelf, 0), VOID);
            due.is("has", x.has(shelf, 0), VOID);
        }
        due.sentence("WHY tells of the latest read() that was refused (none at first)");
        due.is("none", x.count(2), 0);
        due.is("no trouble", x.why(0, 0), NOT);
        due.sentence("0 STEPS, 1 bytes of THE TAPE, 2 TROUBLES of WHY, 3 SHELVES that hold something, 4 LENGTHS of all"
            + " REGISTERS together.");
        for (int what = 0; what < 5; what++) {
            due.is("count " + what, x.count(what), 0);
        }
        due.is("nothing to wipe", x.wipe(), 0);
    }

    private static void objectsDoNotShare() {
        due.sentence("`SwapTables()`: SHAPE 2, 1.");
        String fresh = Look.through(new SwapTables());
        SwapTables x = Twins.withRows(3, 1, 1);
        Look.through(x);
        due.same("a new object beside a busy one", Look.through(new SwapTables()), fresh);
    }

    private static void theLastCall() {
        due.sentence("An object is used for at most 512 calls after it has been made; what later calls answer is free.");
        SwapTables x = new SwapTables();
        for (int call = 1; call < 512; call++) {
            int answer = x.swap(call % 4, 1);
            due.is("call " + call, answer, (call - 1) / 4 % 2 == 0 ? 1 : 0);
        }
        due.is("call 512", x.back(), 9);
    }

    private static void shapesThatAreTaken() {
        due.sentence("rows 0, 1, .. of cells (1 .. 5 rows, each as long as the one above it or shorter, N cells in all, N"
            + " 1 .. 5;");
        SwapTables x = new SwapTables();
        for (int n = 1; n <= 5; n++) {
            for (int s = BEGIN[n]; s < BEGIN[n + 1]; s++) {
                int[] rows = Lead.SHAPES[s];
                due.is(name(s), Lead.toShape(x, rows), Lead.STANDARD_ONES[s]);
                due.is(name(s) + ": N", x.of(0), n);
                due.is(name(s) + ": rows", x.of(1), Arrays.stream(rows).filter(row -> row > 0).count());
                due.is(name(s) + ": D", x.of(2), Lead.STANDARD_ONES[s]);
                due.is(name(s) + ": its number", x.of(4), s - BEGIN[n]);
                due.is(name(s) + ": the last cell of row 0", x.cell(0, rows[0] - 1, 1), rows[0] - 1);
                due.is(name(s) + ": no cell behind it", x.cell(0, rows[0], 1), VOID);
            }
        }
    }

    private static void shapeThatItIs() {
        due.sentence("shape() with the SHAPE that it is makes all as told, too (REGISTERS as at first, VECTORS gone, no"
            + " STEPS).");
        for (int s = 0; s < Lead.SHAPES.length; s++) {
            SwapTables x = bench(s);
            int n = x.of(0);
            Lead.read(x, 0, LONGEST[n]);
            Lead.read(x, 3, LONGEST[n]);
            x.vector(0, 0);
            x.vector(3, 0);
            x.row(1, 1);
            due.is(name(s) + ": again", Lead.toShape(x, Lead.SHAPES[s]), Lead.STANDARD_ONES[s]);
            due.is(name(s) + ": lengths", x.count(4), 0);
            due.is(name(s) + ": steps", x.count(0), 0);
            due.is(name(s) + ": no way back", x.back(), SwapTables.STATE);
            due.is(name(s) + ": vector 0", x.has(0, 0), VOID);
            due.is(name(s) + ": vector 3", x.acts(3, 0), -11);
            due.is(name(s) + ": the row stays", x.count(3), 1);
        }
    }

    private static void vectorsGoRowsStay() {
        due.sentence("SHAPE changed, VECTORS lie there no more, ROWS stay.");
        SwapTables x = Lead.shape(3, 1, 1);
        for (int shelf = 0; shelf < 4; shelf++) {
            x.vector(shelf, 5);
        }
        Lead.toShape(x, 1);
        due.is("four vectors go", x.count(3), 0);
        x.row(0, 0);
        Lead.row(x, 1, 1, 2, 3, 4, 5, 6, 7, 8, 9, 10, 11, 12, 13, 14, 15, 16, 17, 18, 19, 20);
        x.vector(2, 0);
        x.film(3, 0);
        Lead.toShape(x, 2, 1);
        due.is("three rows stay", x.count(3), 3);
        due.is("the row of 0 stays", x.judge(0), NOT);
        for (int i = 0; i < 20; i++) {
            due.is("place " + i + " stays", x.get(1, i), i + 1);
        }
        due.is("the vector goes", x.judge(2), -11);
        due.is("the film is a row", x.get(3, 0), 1);
        due.is("of one place", x.get(3, 1), VOID);
        Lead.toShape(x, 2, 2, 2);
        x.vector(2, 1);
        due.is("no shape", Lead.toShape(x, 3, 3), BAD);
        due.is("by none the vector stays", x.has(2, 1), 1);
    }

    private static void hooksAndContents() {
        due.sentence("A cell in row r and column c (from 0) has a CONTENT, c less r, and a HOOK: cells to the right of it in"
            + " its row, cells below it in its column, and 1.");
        SwapTables row = Lead.shape(5);
        SwapTables column = Lead.shape(1, 1, 1, 1, 1);
        for (int i = 0; i < 5; i++) {
            due.is("hook in a row", row.cell(0, i, 0), 5 - i);
            due.is("content in a row", row.cell(0, i, 1), i);
            due.is("hook in a column", column.cell(i, 0, 0), 5 - i);
            due.is("content in a column", column.cell(i, 0, 1), -i);
        }
        due.is("one cell", Lead.shape(1).cell(0, 0, 0), 1);
        due.is("the corner of 3, 1, 1", Lead.shape(3, 1, 1).cell(0, 0, 0), 5);
        due.is("the last cell of 2, 2, 1", Lead.shape(2, 2, 1).cell(2, 0, 0), 1);
        due.is("with one below alone", Lead.shape(2, 2, 1).cell(0, 1, 0), 2);
        due.is("as many as can be", Lead.shape(3, 2).cell(0, 1, 0), 3);
        due.sentence("3 all HOOKS multiplied");
        int[] products = {1, 2, 2, 6, 3, 6, 24, 8, 12, 8, 24, 120, 30, 24, 20, 24, 30, 120};
        for (int s = 0; s < Lead.SHAPES.length; s++) {
            due.is(name(s), bench(s).of(3), products[s]);
        }
    }

    private static void cellsUnderALongerRow() {
        due.sentence("HOOK (what 0), CONTENT (1) of a cell. VOID: BAD.");
        for (int s = 0; s < Lead.SHAPES.length; s++) {
            SwapTables x = bench(s);
            int cells = 0;
            for (int r = -1; r < 7; r++) {
                for (int c = -1; c < 7; c++) {
                    boolean isCell = r >= 0 && r < 5 && c >= 0 && c < Lead.SHAPES[s][r];
                    due.is(name(s) + " " + r + " " + c, x.cell(r, c, 1), isCell ? c - r : VOID);
                    cells += x.cell(r, c, 0) == VOID ? 0 : 1;
                }
            }
            due.is(name(s) + ": cells", cells, x.of(0));
        }
    }

    private static void standardOnes() {
        due.sentence("STANDARD ones are numbered from 0 on, in the order of their rows of (the row of 1, the row of 2, ..,"
            + " the row of N); D: how many there are.");
        for (int s = 0; s < Lead.SHAPES.length; s++) {
            SwapTables x = bench(s);
            int n = x.of(0);
            String before = "";
            for (int k = 0; k < Lead.STANDARD_ONES[s]; k++) {
                StringBuilder rows = new StringBuilder();
                for (int i = 1; i <= n; i++) {
                    rows.append(x.standard(k, i, 0));
                }
                due.holds(name(s) + ": " + before + " comes ahead of " + rows, before.compareTo(rows.toString()) < 0);
                before = rows.toString();
                due.is(name(s) + ": 1 stands first", x.standard(k, 1, 0) + x.standard(k, 1, 1), 0);
            }
            due.is(name(s) + ": no more of them", x.standard(Lead.STANDARD_ONES[s], 1, 0), BAD);
            x.film(0, 0);
            for (int i = 0; i < n; i++) {
                due.is(name(s) + ": the first goes row by row", x.get(0, i), i + 1);
            }
        }
        SwapTables x = Lead.shape(3, 1, 1);
        int[] lastRows = {0, 1, 2, 0, 0};
        int[] lastColumns = {0, 0, 0, 1, 2};
        for (int i = 1; i <= 5; i++) {
            due.is("the last of six, row of " + i, x.standard(5, i, 0), lastRows[i - 1]);
            due.is("the last of six, column of " + i, x.standard(5, i, 1), lastColumns[i - 1]);
        }
    }

    private static int which(int[] shape, int... row) {
        SwapTables x = Lead.shape(shape);
        Lead.row(x, 0, row);
        return x.which(0);
    }

    private static void fillings() {
        due.sentence("A FILLING has each number 1 .. N in one cell.");
        for (int n = 1; n <= 5; n++) {
            int[] row = {n};
            int[] rising = new int[n];
            for (int i = 0; i < n; i++) {
                rising[i] = i + 1;
            }
            due.is("1 .. " + n, which(row, rising), 0);
            for (int i = 0; i < n; i++) {
                for (int none : new int[] {0, n + 1, -1, i + 33, i - 31, i + 2, i, Integer.MIN_VALUE, Integer.MAX_VALUE}) {
                    int[] other = rising.clone();
                    other[i] = none;
                    due.is(Arrays.toString(other), which(row, other), SwapTables.STATE);
                }
            }
        }
    }

    private static void standardFillings() {
        due.sentence("STANDARD: numbers rise along each row and down each column.");
        int[] shape = {2, 2, 1};
        due.is("rises", which(shape, 1, 3, 2, 4, 5), 2);
        due.is("falls in the first row", which(shape, 3, 1, 4, 2, 5), NOT);
        due.is("falls in the last row of two", which(shape, 1, 2, 4, 3, 5), NOT);
        due.is("falls in the last column", which(shape, 1, 4, 2, 3, 5), NOT);
        due.is("falls down to the last cell", which(shape, 1, 2, 4, 5, 3), NOT);
        due.is("falls in each", which(shape, 5, 4, 3, 2, 1), NOT);
        due.is("the one row", which(new int[] {5}, 1, 2, 3, 5, 4), NOT);
        due.is("the one column", which(new int[] {1, 1, 1, 1, 1}, 2, 1, 3, 4, 5), NOT);
        due.is("in no row nor column of it", which(new int[] {3, 1, 1}, 1, 4, 5, 2, 3), 5);
    }

    private static void whichOfEach() {
        due.sentence("Which STANDARD one a ROW tells.");
        for (int s = 0; s < Lead.SHAPES.length; s++) {
            SwapTables x = bench(s);
            for (int k = 0; k < Lead.STANDARD_ONES[s]; k++) {
                x.film(k % 4, k);
                due.is(name(s) + ": " + k, x.which(k % 4), k);
            }
        }
    }

    // ---- ORDERS

    private static void registersAtFirst() {
        due.sentence("REGISTERS 0 .. 3 hold one each (each number stays, at first).");
        for (int s = 0; s < Lead.SHAPES.length; s++) {
            SwapTables x = bench(s);
            for (int r = 0; r < 4; r++) {
                for (int i = 1; i <= x.of(0); i++) {
                    due.is(name(s) + ": " + r + " takes " + i, x.takes(r, i), i);
                }
                due.is(name(s) + ": not 0", x.takes(r, 0), BAD);
                due.is(name(s) + ": nor one above N", x.takes(r, x.of(0) + 1), BAD);
            }
        }
    }

    private static void oneRegisterEach() {
        due.sentence("REGISTERS 0 .. 3 hold one each (each number stays, at first).");
        for (int r = 0; r < 4; r++) {
            int other = (r + 1) % 4;
            SwapTables x = Lead.shape(3, 1);
            x.swap(r, 3);
            lengthsBut(x, r, 1);
            x.times(r, r, other);
            lengthsBut(x, r, 1);
            Lead.read(x, r, "(124)");
            lengthsBut(x, r, 4);
            x.turn(r);
            lengthsBut(x, r, 4);
            due.order("turned", x, r, 4, 1, 3, 2);
            x.back();
            due.order("taken back", x, r, 2, 4, 3, 1);
            lengthsBut(x, r, 4);
            x.times(other, r, r);
            due.order("the other", x, other, 4, 1, 3, 2);
            due.order("the one stays", x, r, 2, 4, 3, 1);
        }
    }

    private static void lengthsBut(SwapTables x, int r, int length) {
        for (int other = 0; other < 4; other++) {
            due.is("register " + r + " alone, of " + other, x.told(other, 0), other == r ? length : 0);
        }
    }

    private static void eachOnce() {
        due.sentence("An ORDER takes each of 1 .. N to one of these, each once.");
        for (int n = 1; n <= 5; n++) {
            SwapTables x = Lead.shape(n);
            int r = 0;
            for (int i = 0; i < 40; i++) {
                x.swap(r, 1 + i * i % Math.max(1, n - 1));
                r = (r + 1) % 4;
                x.times(r, r, (r + 3) % 4);
                int seen = 0;
                for (int number = 1; number <= n; number++) {
                    seen |= 1 << x.takes(r, number);
                }
                due.is("of " + n + " as bits", seen, (2 << n) - 2);
            }
        }
    }

    private static void swapIsDoneFirst() {
        due.sentence("A REGISTER times SWAP k: of the two the SWAP is done first.");
        SwapTables x = Lead.shape(5);
        x.swap(0, 1);
        x.swap(0, 2);
        due.order("1, then 2", x, 0, 2, 3, 1, 4, 5);
        x.swap(0, 3);
        x.swap(0, 4);
        due.order("1 .. 4", x, 0, 2, 3, 4, 5, 1);
        due.sentence("Product of p and q: that which takes i to where p takes (where q takes i).");
        Lead.read(x, 1, "s4");
        x.times(2, 0, 1);
        due.order("p of s4", x, 2, 2, 3, 4, 1, 5);
        x.times(2, 1, 0);
        due.order("s4 of p", x, 2, 2, 3, 5, 4, 1);
    }

    private static void swaps() {
        due.sentence("SWAP k (1 .. N less 1): takes k to k and 1, k and 1 to k, others stay.");
        for (int n = 2; n <= 5; n++) {
            for (int k : new int[] {1, n - 1}) {
                SwapTables x = Lead.shape(n);
                due.is("swap " + k + " of " + n, x.swap(2, k), 1);
                for (int i = 1; i <= n; i++) {
                    due.is("takes " + i, x.takes(2, i), i == k ? k + 1 : i == k + 1 ? k : i);
                }
                due.is("again", x.swap(2, k), 0);
            }
            due.is("0 of " + n, Lead.shape(n).swap(0, 0), BAD);
            due.is(n + " of " + n, Lead.shape(n).swap(0, n), BAD);
        }
    }

    private static void lengths() {
        due.sentence("LENGTH of an ORDER: how many twos i below j are taken so that i comes above j.");
        int[] most = {0, 0, 1, 3, 6, 10};
        for (int n = 1; n <= 5; n++) {
            SwapTables x = Lead.shape(n);
            due.is("of what stays, " + n, x.told(0, 0), 0);
            Lead.read(x, 1, LONGEST[n]);
            due.is("the longest of " + n, x.told(1, 0), most[n]);
            for (int i = 1; i <= n; i++) {
                due.is("it takes " + i, x.takes(1, i), n + 1 - i);
            }
            for (int k = 1; k < n; k++) {
                due.is("none is longer", x.swap(1, k), most[n] - 1);
                due.is("but as long", x.swap(1, k), most[n]);
            }
            due.is("turned it is the same", x.turn(1), most[n]);
            due.is("and twice it is nothing", x.times(2, 1, 1), 0);
        }
    }

    private static void signs() {
        due.sentence("SIGN: 1, or -1, if LENGTH is odd.");
        SwapTables x = Lead.shape(5);
        due.is("length 0", x.told(0, 1), 1);
        int[] word = {1, 2, 1, 3, 2, 1, 4, 3, 2, 1};
        for (int i = 0; i < word.length; i++) {
            due.is("length", x.swap(0, word[i]), i + 1);
            due.is("sign of length " + (i + 1), x.told(0, 1), i % 2 == 0 ? -1 : 1);
        }
        due.is("of one thing", Lead.shape(1).told(0, 1), 1);
    }

    private static void words() {
        due.sentence("of all rows of LENGTH many SWAPS of which the product, in this order, is it, the first by numbers.");
        int[][] longest = {{}, {}, {1}, {1, 2, 1}, {1, 2, 1, 3, 2, 1}, {1, 2, 1, 3, 2, 1, 4, 3, 2, 1}};
        for (int n = 1; n <= 5; n++) {
            SwapTables x = Lead.shape(n);
            due.is("what stays has none, " + n, x.word(3, 0), NOT);
            Lead.read(x, 3, LONGEST[n]);
            for (int i = 0; i < longest[n].length; i++) {
                due.is("of the longest of " + n + " at " + i, x.word(3, i), longest[n][i]);
            }
            due.is("no more of " + n, x.word(3, longest[n].length), NOT);
            for (int k = 1; k < n; k++) {
                Lead.read(x, 2, "s" + k);
                due.is("one swap of " + n, x.word(2, 0), k);
                due.is("no second", x.word(2, 1), NOT);
            }
        }
        SwapTables x = Lead.read(Lead.shape(5), 0, "s4*s2*s1");
        int[] first = {2, 1, 4};
        for (int i = 0; i < 3; i++) {
            due.is("4, 2, 1 as 2, 1, 4", x.word(0, i), first[i]);
        }
    }

    private static void types() {
        due.sentence("TYPE: its cycles' sizes, the greatest first, as a PARTITION of N;");
        String[] round = {"", "e", "(12)", "(123)", "(1234)", "(12345)"};
        for (int n = 1; n <= 5; n++) {
            SwapTables x = Lead.shape(n);
            due.is("of what stays it is the last of " + n, x.told(0, 2), PARTITIONS[n] - 1);
            Lead.read(x, 0, round[n]);
            due.is("of one cycle it is the first of " + n, x.told(0, 2), 0);
        }
        SwapTables x = Lead.read(Lead.shape(5), 1, "(12)*(345)");
        due.is("the greater cycle comes first", x.told(1, 2), 2);
        Lead.read(x, 1, "(345)");
        due.is("of one that leaves 1 and 2", x.told(1, 2), 3);
        Lead.read(x, 1, "(45)*(13)");
        due.is("two of two", x.told(1, 2), 4);
        Lead.read(x, 1, "(15)");
        due.is("one of two", x.told(1, 2), 5);
    }

    private static void partitions() {
        due.sentence("PARTITIONS are numbered from 0 on: the one with the greater first number ahead, of like ones by the"
            + " next, and so on.");
        for (int n = 1; n <= 5; n++) {
            SwapTables x = Lead.shape(n);
            due.is("how many of " + n, x.partition(-1, 0), PARTITIONS[n]);
            for (int k = 0; k < PARTITIONS[n]; k++) {
                int[] parts = Lead.SHAPES[BEGIN[n] + k];
                int size = 0;
                for (int i = 0; i < 5; i++) {
                    due.is("of " + n + ": " + k + " at " + i, x.partition(k, i), parts[i] > 0 ? parts[i] : NOT);
                    size += parts[i] > 0 ? 1 : 0;
                }
                due.is("of " + n + ": size of " + k, x.partition(k, -1), size);
                due.is("of " + n + ": no sixth", x.partition(k, 5), NOT);
            }
        }
    }

    private static void partitionsOfMinusOne() {
        due.sentence("Where k is -1, i does not matter, whatever it is.");
        for (int n = 1; n <= 5; n++) {
            for (int i : new int[] {-1, 0, 1, -2, 99, Integer.MIN_VALUE, Integer.MAX_VALUE}) {
                due.is("i is " + i + ", of " + n, Lead.shape(n).partition(-1, i), PARTITIONS[n]);
            }
        }
    }

    // ---- What is made of STANDARD ones

    private static void straightOfStandard() {
        due.sentence("(there is just one such way)");
        for (int s = 0; s < Lead.SHAPES.length; s++) {
            SwapTables x = bench(s);
            for (int k = 0; k < x.of(2); k++) {
                x.film(3, k);
                for (int j = 0; j < x.of(2); j++) {
                    due.is(name(s) + ": " + k + " of itself, " + j, x.straight(3, j), k == j ? 1 : 0);
                }
            }
            due.is(name(s) + ": D", x.straight(3, x.of(2)), VOID);
        }
        due.sentence("A ROW tells a FILLING by its first N places: numbers of cells, row by row;");
        SwapTables x = Lead.shape(3, 2);
        Lead.row(x, 0, 1, 3, 5, 2, 4, 1, -1, 0, 9, 9, 9, 9, 9, 9, 9, 9, 9, 9, 9, 9);
        due.is("of 20 the first five", x.straight(0, 4), 1);
        due.is("of 20 the first five, too", x.which(0), 4);
        Lead.row(x, 0, 1, 3, 5, 2, 4);
        due.is("of just five", x.which(0), 4);
        Lead.row(x, 0, 1, 3, 5, 2);
        due.is("of four", x.which(0), -13);
    }

    private static void straightOfOneColumn() {
        due.sentence("SIGN times the TABLOID of the FILLING with each number so taken, together.");
        SwapTables column = Lead.shape(1, 1, 1, 1, 1);
        SwapTables row = Lead.shape(5);
        int[][] fillings = {{1, 2, 3, 4, 5}, {2, 1, 3, 4, 5}, {5, 4, 3, 2, 1}, {2, 3, 4, 5, 1}, {1, 2, 3, 5, 4},
            {5, 2, 3, 4, 1}};
        int[] signs = {1, -1, 1, 1, -1, -1};
        for (int f = 0; f < fillings.length; f++) {
            Lead.row(column, 0, fillings[f]);
            due.is("in a column", column.straight(0, 0), signs[f]);
            Lead.row(row, 0, fillings[f]);
            due.is("in a row", row.straight(0, 0), 1);
        }
        SwapTables one = Lead.shape(1);
        Lead.row(one, 0, 1);
        due.is("one cell", one.straight(0, 0), 1);
    }

    private static void wholeOfWhatStays() {
        due.sentence("WHOLE of an ORDER p, of k and j: the number of j, if STRAIGHT is told STANDARD k with each number"
            + " taken by p.");
        for (int s = 0; s < Lead.SHAPES.length; s++) {
            SwapTables x = bench(s);
            int d = x.of(2);
            for (int k = 0; k < d; k++) {
                for (int j = 0; j < d; j++) {
                    due.is(name(s) + ": " + k + " " + j, x.whole(3, k, j), k == j ? 1 : 0);
                    due.is(name(s) + ": fraction " + k + " " + j, x.fraction(3, k, j, 0), k == j ? 1 : 0);
                    due.is(name(s) + ": below " + k + " " + j, x.fraction(3, k, j, 1), 1);
                }
            }
        }
    }

    private static void fractionsOfNeighbours() {
        due.sentence("of k and k: 1 by x; of k and j, j being k with s and s and 1 changed: 1, if k is below j by numbers,"
            + " else 1 less 1 by (x times x); of all others 0.");
        SwapTables row = Lead.shape(5);
        SwapTables column = Lead.shape(1, 1, 1, 1, 1);
        for (int s = 1; s < 5; s++) {
            Lead.read(row, 0, "s" + s);
            due.is("x is 1", row.fraction(0, 0, 0, 0), 1);
            due.is("x is 1, below", row.fraction(0, 0, 0, 1), 1);
            Lead.read(column, 0, "s" + s);
            due.is("x is -1", column.fraction(0, 0, 0, 0), -1);
            due.is("x is -1, below", column.fraction(0, 0, 0, 1), 1);
        }
        // In 4, 1 the number in row 1 is 5, 4, 3, 2; of SWAP s and s and 1 in row 1, x is -1 less s of the one that has
        // s and 1 there, s of the one that has s there.
        SwapTables x = Lead.shape(4, 1);
        for (int s = 2; s <= 4; s++) {
            Lead.read(x, 0, "s" + s);
            int above = 4 - s;
            int[][] fractions = {{above, above, -1, s}, {above + 1, above + 1, 1, s}, {above, above + 1, 1, 1},
                {above + 1, above, s * s - 1, s * s}};
            for (int[] f : fractions) {
                due.is("s" + s + " of " + f[0] + " and " + f[1], x.fraction(0, f[0], f[1], 0), f[2]);
                due.is("s" + s + " of " + f[0] + " and " + f[1] + ", below", x.fraction(0, f[0], f[1], 1), f[3]);
            }
            int far = s == 2 ? 0 : 3;
            due.is("of all others", x.fraction(0, above, far, 0), 0);
            due.is("of all others, below", x.fraction(0, above, far, 1), 1);
        }
    }

    private static void fractionsInLowestTerms() {
        due.sentence("Fractions are told in lowest terms: part 0 above, 1 below the line (above 0); 0 as 0 by 1.");
        for (int s = 0; s < Lead.SHAPES.length; s++) {
            SwapTables x = bench(s);
            int d = x.of(2);
            Lead.read(x, 0, LONGEST[x.of(0)]);
            for (int k = 0; k < d; k++) {
                lowest(name(s) + ": norm " + k, x.norm(k, 0), x.norm(k, 1));
                for (int j = 0; j < d; j++) {
                    lowest(name(s) + ": fraction " + k + " " + j, x.fraction(0, k, j, 0), x.fraction(0, k, j, 1));
                }
            }
        }
    }

    private static void lowest(String call, long above, long below) {
        due.holds(call + ", below the line", below > 0);
        due.is(call + ", lowest terms", gcd(Math.abs(above), below), 1);
    }

    private static long gcd(long a, long b) {
        return b == 0 ? a : gcd(b, a % b);
    }

    private static void norms() {
        due.sentence("NORM of STANDARD 0 is 1; of j, being k with s and s and 1 changed, k below j: that of k times (1 less"
            + " 1 by (x times x)), x as above of k.");
        for (int s = 0; s < Lead.SHAPES.length; s++) {
            SwapTables x = bench(s);
            due.is(name(s) + ": of 0", x.norm(0, 0), 1);
            due.is(name(s) + ": of 0, below", x.norm(0, 1), 1);
            due.is(name(s) + ": of D", x.norm(x.of(2), 0), VOID);
        }
        SwapTables x = Lead.shape(4, 1);
        long[][] norms = {{1, 1}, {15, 16}, {5, 6}, {5, 8}};
        for (int k = 0; k < 4; k++) {
            due.is("4, 1: of " + k, x.norm(k, 0), norms[k][0]);
            due.is("4, 1: of " + k + ", below", x.norm(k, 1), norms[k][1]);
        }
    }

    private static void characters() {
        due.sentence("CHARACTER of an ORDER: the sum of WHOLE of k and k over all k (that of FRACTIONS is the same). Of a"
            + " PARTITION: that of any ORDER of this TYPE.");
        for (int s = 0; s < Lead.SHAPES.length; s++) {
            SwapTables x = bench(s);
            int n = x.of(0);
            due.is(name(s) + ": of what stays", x.character(0), x.of(2));
            due.is(name(s) + ": of the last partition", x.characterOf(PARTITIONS[n] - 1), x.of(2));
            boolean isHook = Lead.SHAPES[s][1] <= 1;
            due.is(name(s) + ": of the first one", x.characterOf(0), isHook ? x.of(1) % 2 == 1 ? 1 : -1 : 0);
            due.is(name(s) + ": behind the last one", x.characterOf(PARTITIONS[n]), VOID);
            for (int k = 0; k < PARTITIONS[n] && x.of(2) == 1; k++) {
                boolean isOdd = (n - x.partition(k, -1)) % 2 == 1;
                due.is(name(s) + ": by SIGN, of " + k, x.characterOf(k), isOdd && x.of(1) == n && n > 1 ? -1 : 1);
            }
        }
    }

    private static void branches() {
        due.sentence("BRANCHES: rows that can lose their last cell so that a SHAPE (or nothing) is left: bits; of a row that"
            + " is one: how many STANDARD ones have N there (that is D of what is left).");
        SwapTables one = Lead.shape(1);
        due.is("of one cell nothing is left, bits", one.branch(-1), 1);
        due.is("of one cell nothing is left", one.branch(0), 1);
        int[] bits = {1, 1, 2, 1, 3, 4, 1, 3, 2, 5, 8, 1, 3, 3, 5, 6, 9, 16};
        for (int s = 0; s < Lead.SHAPES.length; s++) {
            SwapTables x = bench(s);
            due.is(name(s) + ": bits", x.branch(-1), bits[s]);
            int together = 0;
            for (int row = 0; row < x.of(1); row++) {
                boolean can = (bits[s] >> row & 1) == 1;
                due.holds(name(s) + ": row " + row, (x.branch(row) == NOT) != can);
                together += can ? x.branch(row) : 0;
            }
            due.is(name(s) + ": together", together, x.of(2));
            due.is(name(s) + ": no row", x.branch(x.of(1)), BAD);
        }
    }
}

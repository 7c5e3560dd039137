/** One method for each promise: ordinary inputs, the edges that the document names, wrong inputs. */
public final class PromisesTest {
    private static final int BAD = SwapTables.BAD;
    private static final int NOT = SwapTables.NOT;
    private static final int FULL = SwapTables.FULL;
    private static final int STATE = SwapTables.STATE;
    private static final long VOID = SwapTables.VOID;
    private static final int[] BEYOND = {-1, 4, 1000, Integer.MIN_VALUE, Integer.MAX_VALUE};

    private static final Due due = new Due("PromisesTest");

    public static void main(String[] args) {
        newObject();
        shape();
        shapeRefuses();
        of();
        cell();
        standard();
        which();
        swap();
        times();
        turn();
        takes();
        told();
        word();
        partition();
        straight();
        whole();
        fraction();
        norm();
        character();
        characterOf();
        branch();
        vector();
        give();
        has();
        acts();
        actsOnSix();
        inner();
        row();
        put();
        get();
        film();
        judge();
        back();
        backForgets();
        backThroughAll();
        feed();
        wipe();
        read();
        readFaults();
        readWrong();
        why();
        whyStays();
        image();
        restore();
        count();
        due.end();
    }

    private static void newObject() {
        SwapTables x = new SwapTables();
        due.is("1: N", x.of(0), 3);
        due.is("1: rows", x.of(1), 2);
        due.is("1: a cell in row 1", x.cell(1, 0, 0), 1);
        for (int r = 0; r < 4; r++) {
            due.order("1", x, r, 1, 2, 3);
            due.is("1: shelf", x.judge(r), -11);
        }
        for (int what = 0; what <= 4; what++) {
            due.is("1: count", x.count(what), 0);
        }
        due.is("1: no why", x.why(0, 0), NOT);
        due.is("1: no step", x.back(), STATE);
        due.is("1: no image", x.restore(), STATE);
        due.is("1: BAD", BAD, -1);
        due.is("1: NOT", NOT, -2);
        due.is("1: FULL", FULL, -3);
        due.is("1: STATE", STATE, -5);
        due.is("1: VOID", VOID, Long.MIN_VALUE);
    }

    private static void shape() {
        SwapTables x = new SwapTables();
        x.row(0, 2);
        x.put(0, 1, 7);
        for (int shelf = 1; shelf < 4; shelf++) {
            x.vector(shelf, 1);
        }
        x.swap(2, 1);
        x.feed('s');
        x.image();
        due.is("2: 3, 1, 1", x.shape(3, 1, 1, 0, 0), 6);
        due.is("2: one shelf is in use", x.count(3), 1);
        due.is("2: the row stays", x.get(0, 1), 7);
        due.is("2: the vector is gone", x.acts(1, 0), -11);
        due.is("2: no steps", x.count(0), 0);
        due.is("2: the tape stays", x.count(1), 1);
        due.order("2", x, 2, 1, 2, 3, 4, 5);
        x.vector(1, 1);
        x.swap(0, 4);
        x.vector(0, 0);
        due.is("2: the shape that it is", x.shape(3, 1, 1, 0, 0), 6);
        due.is("2: no shelf is in use", x.count(3), 0);
        due.is("2: the vector is gone again", x.has(1, 1), VOID);
        due.is("2: no steps again", x.back(), STATE);
        due.order("2 again", x, 0, 1, 2, 3, 4, 5);
        due.is("2: the image stays", x.restore(), 3);
        due.is("2: 1", x.shape(1, 0, 0, 0, 0), 1);
        due.is("2: 5", x.shape(5, 0, 0, 0, 0), 1);
        due.is("2: 1, 1, 1, 1, 1", x.shape(1, 1, 1, 1, 1), 1);
        due.is("2: 3, 2", x.shape(3, 2, 0, 0, 0), 5);
        due.is("2: 2, 2, 1", x.shape(2, 2, 1, 0, 0), 5);
        due.is("2: 2, 1, 1, 1", x.shape(2, 1, 1, 1, 0), 4);
    }

    private static void shapeRefuses() {
        int[][] none = {
            {0, 0, 0, 0, 0}, {6, 0, 0, 0, 0}, {3, 3, 0, 0, 0}, {1, 2, 0, 0, 0}, {2, 0, 1, 0, 0}, {-1, 0, 0, 0, 0},
            {2, -1, 0, 0, 0}, {2, 1, 0, 0, -1}, {2, 1, 1, 1, 1}, {0, 1, 0, 0, 0}, {1, 1, 1, 1, 2},
            {Integer.MAX_VALUE, Integer.MAX_VALUE, 2, 1, 0}, {Integer.MAX_VALUE, Integer.MAX_VALUE, 2, 2, 1},
            {2, 1, Integer.MIN_VALUE, Integer.MIN_VALUE, Integer.MIN_VALUE}
        };
        SwapTables x = new SwapTables();
        x.swap(0, 1);
        x.vector(0, 0);
        for (int[] rows : none) {
            due.is("2: none", x.shape(rows[0], rows[1], rows[2], rows[3], rows[4]), BAD);
        }
        due.is("2: a refusal leaves the steps", x.count(0), 1);
        due.is("2: a refusal leaves the vector", x.has(0, 0), 1);
        due.is("2: a refusal leaves the shape", x.of(0), 3);
        due.is("2: a refusal leaves the register", x.takes(0, 1), 2);
    }

    private static void of() {
        SwapTables x = Lead.shape(2, 2, 1);
        int[] due221 = {5, 3, 5, 24, 4};
        for (int what = 0; what < 5; what++) {
            due.is("3: of " + what, x.of(what), due221[what]);
        }
        due.is("3: below", x.of(-1), BAD);
        due.is("3: above", x.of(5), BAD);
        due.is("3: hooks of 5", Lead.shape(5).of(3), 120);
        due.is("3: number of 5", Lead.shape(5).of(4), 0);
        due.is("3: number of 1, 1, 1, 1, 1", Lead.shape(1, 1, 1, 1, 1).of(4), 6);
        due.is("3: number of 3, 1", Lead.shape(3, 1).of(4), 1);
    }

    private static void cell() {
        SwapTables x = Lead.shape(3, 1, 1);
        int[][] cells = {{0, 0, 5, 0}, {0, 1, 2, 1}, {0, 2, 1, 2}, {1, 0, 2, -1}, {2, 0, 1, -2}};
        for (int[] c : cells) {
            due.is("4: hook", x.cell(c[0], c[1], 0), c[2]);
            due.is("4: content", x.cell(c[0], c[1], 1), c[3]);
        }
        int[][] none = {{-1, 0, 0}, {0, -1, 0}, {0, 3, 0}, {1, 1, 1}, {3, 0, 0}, {5, 0, 0}, {0, 0, 2}, {0, 0, -1},
            {Integer.MAX_VALUE, 0, 0}, {0, Integer.MIN_VALUE, 1}};
        for (int[] c : none) {
            due.is("4: none", x.cell(c[0], c[1], c[2]), VOID);
        }
    }

    private static void standard() {
        SwapTables x = Lead.shape(2, 2);
        int[][] rows = {{0, 0, 1, 1}, {0, 1, 0, 1}};
        int[][] columns = {{0, 1, 0, 1}, {0, 0, 1, 1}};
        for (int k = 0; k < 2; k++) {
            for (int i = 1; i <= 4; i++) {
                due.is("5: row", x.standard(k, i, 0), rows[k][i - 1]);
                due.is("5: column", x.standard(k, i, 1), columns[k][i - 1]);
            }
        }
        due.is("5: k", x.standard(2, 1, 0), BAD);
        due.is("5: k below", x.standard(-1, 1, 0), BAD);
        due.is("5: i 0", x.standard(0, 0, 0), BAD);
        due.is("5: i above", x.standard(0, 5, 0), BAD);
        due.is("5: what", x.standard(0, 1, 2), BAD);
        due.is("5: what below", x.standard(0, 1, -1), BAD);
    }

    private static void which() {
        SwapTables x = new SwapTables();
        for (int shelf : BEYOND) {
            due.is("6: shelf", x.which(shelf), BAD);
        }
        due.is("6: nothing", x.which(0), -11);
        x.vector(0, 0);
        due.is("6: a vector", x.which(0), -12);
        Lead.row(x, 0, 1, 2);
        due.is("6: too few", x.which(0), -13);
        Lead.row(x, 0, 1, 2, 2);
        due.is("6: twice", x.which(0), STATE);
        Lead.row(x, 0, 1, 2, 4);
        due.is("6: above N", x.which(0), STATE);
        Lead.row(x, 0, 0, 1, 2);
        due.is("6: 0", x.which(0), STATE);
        Lead.row(x, 0, 1, 2, 35);
        due.is("6: 3 and 32", x.which(0), STATE);
        Lead.row(x, 0, 2, 1, 3);
        due.is("6: row falls", x.which(0), NOT);
        Lead.row(x, 0, 2, 3, 1);
        due.is("6: column falls", x.which(0), NOT);
        Lead.row(x, 0, 1, 2, 3);
        due.is("6: the first", x.which(0), 0);
        Lead.row(x, 3, 1, 3, 2, 9, 9);
        due.is("6: the second, with more behind", x.which(3), 1);
    }

    private static void swap() {
        SwapTables x = Lead.shape(4);
        due.is("7: first", x.swap(0, 1), 1);
        due.is("7: second", x.swap(0, 2), 2);
        due.order("7: the swap is done first", x, 0, 2, 3, 1, 4);
        due.is("7: the same again", x.swap(0, 2), 1);
        due.is("7: of another", x.swap(3, 3), 1);
        due.is("7: k 0", x.swap(0, 0), BAD);
        due.is("7: k N", x.swap(0, 4), BAD);
        due.is("7: k below", x.swap(0, -1), BAD);
        for (int r : BEYOND) {
            due.is("7: r", x.swap(r, 1), BAD);
        }
        due.is("7: no swap of one thing", Lead.shape(1).swap(0, 1), BAD);
        due.is("7: steps", x.count(0), 4);
    }

    private static void times() {
        SwapTables x = new SwapTables();
        x.swap(0, 1);
        x.swap(1, 2);
        due.is("8: times", x.times(2, 0, 1), 2);
        due.order("8: the second is done first", x, 2, 2, 3, 1);
        due.is("8: the other way", x.times(3, 1, 0), 2);
        due.order("8: the other way", x, 3, 3, 1, 2);
        due.is("8: into itself", x.times(2, 2, 2), 2);
        due.order("8: into itself", x, 2, 3, 1, 2);
        due.is("8: nothing left", x.times(0, 0, 0), 0);
        for (int r : BEYOND) {
            due.is("8: r", x.times(r, 0, 0), BAD);
            due.is("8: s", x.times(0, r, 0), BAD);
            due.is("8: t", x.times(0, 0, r), BAD);
        }
    }

    private static void turn() {
        SwapTables x = Lead.shape(3, 1);
        x.swap(1, 1);
        x.swap(1, 2);
        x.swap(1, 3);
        due.order("9: before", x, 1, 2, 3, 4, 1);
        due.is("9: turn", x.turn(1), 3);
        due.order("9: turned", x, 1, 4, 1, 2, 3);
        due.is("9: of one that stays", x.turn(0), 0);
        due.is("9: that is no step", x.count(0), 4);
        for (int r : BEYOND) {
            due.is("9: r", x.turn(r), BAD);
        }
    }

    private static void takes() {
        SwapTables x = new SwapTables();
        x.swap(2, 2);
        due.order("10", x, 2, 1, 3, 2);
        due.is("10: i 0", x.takes(2, 0), BAD);
        due.is("10: i above N", x.takes(2, 4), BAD);
        due.is("10: i below", x.takes(2, -1), BAD);
        for (int r : BEYOND) {
            due.is("10: r", x.takes(r, 1), BAD);
        }
    }

    private static void told() {
        SwapTables x = Lead.read(Lead.shape(4, 1), 0, "(15)*(23)");
        due.is("11: length", x.told(0, 0), 8);
        due.is("11: sign", x.told(0, 1), 1);
        due.is("11: type 2, 2, 1", x.told(0, 2), 4);
        Lead.read(x, 1, "(253)");
        due.is("11: type 3, 1, 1", x.told(1, 2), 3);
        Lead.read(x, 2, "(132)*(45)");
        due.is("11: type 3, 2", x.told(2, 2), 2);
        due.is("11: odd", x.told(2, 1), -1);
        due.is("11: type of what stays", x.told(3, 2), 6);
        due.is("11: what", x.told(0, 3), VOID);
        due.is("11: what below", x.told(0, -1), VOID);
        for (int r : BEYOND) {
            due.is("11: r", x.told(r, 0), VOID);
        }
    }

    private static void word() {
        SwapTables x = new SwapTables();
        Lead.read(x, 0, "(13)");
        int[] first = {1, 2, 1};
        for (int i = 0; i < 3; i++) {
            due.is("12: of (13)", x.word(0, i), first[i]);
        }
        due.is("12: no more", x.word(0, 3), NOT);
        due.is("12: far more", x.word(0, Integer.MAX_VALUE), NOT);
        due.is("12: of what stays", x.word(1, 0), NOT);
        due.is("12: i below", x.word(0, -1), BAD);
        for (int r : BEYOND) {
            due.is("12: r", x.word(r, 0), BAD);
        }
        x = Lead.read(Lead.shape(5), 2, "(15)*(24)");
        int[] longest = {1, 2, 1, 3, 2, 1, 4, 3, 2, 1};
        for (int i = 0; i < 10; i++) {
            due.is("12: of the longest", x.word(2, i), longest[i]);
        }
        Lead.read(x, 3, "s3*s1");
        due.is("12: the first by numbers", x.word(3, 0), 1);
        due.is("12: then the other", x.word(3, 1), 3);
    }

    private static void partition() {
        SwapTables x = Lead.shape(5);
        int[][] parts = {{5}, {4, 1}, {3, 2}, {3, 1, 1}, {2, 2, 1}, {2, 1, 1, 1}, {1, 1, 1, 1, 1}};
        due.is("13: how many", x.partition(-1, 0), 7);
        due.is("13: i does not matter", x.partition(-1, Integer.MIN_VALUE), 7);
        due.is("13: i does not matter", x.partition(-1, 99), 7);
        for (int k = 0; k < 7; k++) {
            due.is("13: size", x.partition(k, -1), parts[k].length);
            for (int i = 0; i < parts[k].length; i++) {
                due.is("13: part", x.partition(k, i), parts[k][i]);
            }
            due.is("13: not so many", x.partition(k, parts[k].length), NOT);
            due.is("13: i below", x.partition(k, -2), BAD);
        }
        due.is("13: far more", x.partition(6, Integer.MAX_VALUE), NOT);
        due.is("13: k above", x.partition(7, 0), BAD);
        due.is("13: k below", x.partition(-2, 0), BAD);
        int[] amounts = {1, 2, 3, 5};
        for (int n = 1; n <= 4; n++) {
            due.is("13: of " + n, Lead.shape(n).partition(-1, 0), amounts[n - 1]);
        }
    }

    private static void straight() {
        SwapTables x = new SwapTables();
        due.is("14: nothing", x.straight(0, 0), VOID);
        x.vector(0, 0);
        due.is("14: a vector", x.straight(0, 0), VOID);
        Lead.row(x, 0, 1, 2);
        due.is("14: too few", x.straight(0, 0), VOID);
        Lead.row(x, 0, 1, 1, 2);
        due.is("14: no filling", x.straight(0, 0), VOID);
        Lead.row(x, 0, 2, 1, 3, 77);
        due.is("14: 2 1 by 3, of 0", x.straight(0, 0), 1);
        due.is("14: 2 1 by 3, of 1", x.straight(0, 1), -1);
        due.is("14: j", x.straight(0, 2), VOID);
        due.is("14: j below", x.straight(0, -1), VOID);
        for (int shelf : BEYOND) {
            due.is("14: shelf", x.straight(shelf, 0), VOID);
        }
        x.shape(2, 2, 0, 0, 0);
        Lead.row(x, 1, 2, 1, 3, 4);
        due.is("14: 2 1 by 3 4, of 0", x.straight(1, 0), 1);
        due.is("14: 2 1 by 3 4, of 1", x.straight(1, 1), -1);
        x.shape(1, 1, 1, 0, 0);
        Lead.row(x, 1, 2, 1, 3);
        due.is("14: in a column only the sign is told", x.straight(1, 0), -1);
    }

    private static void whole() {
        SwapTables x = Lead.read(new SwapTables(), 0, "(123)");
        long[][] table = {{0, -1}, {1, -1}};
        for (int k = 0; k < 2; k++) {
            for (int j = 0; j < 2; j++) {
                due.is("15: of (123)", x.whole(0, k, j), table[k][j]);
                due.is("15: of what stays", x.whole(1, k, j), k == j ? 1 : 0);
            }
        }
        for (int r : BEYOND) {
            due.is("15: r", x.whole(r, 0, 0), VOID);
        }
        due.is("15: k", x.whole(0, 2, 0), VOID);
        due.is("15: k below", x.whole(0, -1, 0), VOID);
        due.is("15: j", x.whole(0, 0, 2), VOID);
        due.is("15: j below", x.whole(0, 0, -1), VOID);
    }

    private static void fraction() {
        SwapTables x = new SwapTables();
        x.swap(0, 2);
        long[][] above = {{-1, 1}, {3, 1}};
        long[][] below = {{2, 1}, {4, 2}};
        for (int k = 0; k < 2; k++) {
            for (int j = 0; j < 2; j++) {
                due.is("16: above, of swap 2", x.fraction(0, k, j, 0), above[k][j]);
                due.is("16: below, of swap 2", x.fraction(0, k, j, 1), below[k][j]);
            }
        }
        x.swap(1, 1);
        due.is("16: 0 above", x.fraction(1, 0, 1, 0), 0);
        due.is("16: 0 by 1", x.fraction(1, 0, 1, 1), 1);
        due.is("16: of swap 1 in the column", x.fraction(1, 1, 1, 0), -1);
        due.is("16: below is above 0", x.fraction(1, 1, 1, 1), 1);
        x.times(2, 1, 0);
        due.is("16: of swap 1 times swap 2, 1 and 0", x.fraction(2, 1, 0, 0), 3);
        due.is("16: of swap 1 times swap 2, 0 and 1", x.fraction(2, 0, 1, 0), -1);
        for (int r : BEYOND) {
            due.is("16: r", x.fraction(r, 0, 0, 0), VOID);
        }
        due.is("16: k", x.fraction(0, 2, 0, 0), VOID);
        due.is("16: j", x.fraction(0, 0, -1, 0), VOID);
        due.is("16: part", x.fraction(0, 0, 0, 2), VOID);
        due.is("16: part below", x.fraction(0, 0, 0, -1), VOID);
    }

    private static void norm() {
        SwapTables x = Lead.shape(3, 1);
        long[] above = {1, 8, 2};
        long[] below = {1, 9, 3};
        for (int k = 0; k < 3; k++) {
            due.is("17: above", x.norm(k, 0), above[k]);
            due.is("17: below", x.norm(k, 1), below[k]);
        }
        due.is("17: k", x.norm(3, 0), VOID);
        due.is("17: k below", x.norm(-1, 0), VOID);
        due.is("17: part", x.norm(0, 2), VOID);
        due.is("17: part below", x.norm(0, -1), VOID);
        x.shape(1, 1, 1, 1, 1);
        due.is("17: of a column", x.norm(0, 1), 1);
    }

    private static void character() {
        SwapTables x = Lead.shape(3, 2);
        String[] texts = {"(12345)", "(1234)", "(123)*(45)", "(123)", "(12)*(34)", "s3", "e"};
        long[] characters = {0, -1, 1, -1, 1, 1, 5};
        for (int i = 0; i < texts.length; i++) {
            Lead.read(x, 2, texts[i]);
            due.is("18: of " + texts[i], x.character(2), characters[i]);
        }
        for (int r : BEYOND) {
            due.is("18: r", x.character(r), VOID);
        }
    }

    private static void characterOf() {
        long[][] table = {{-1, 0, -1, 1, 0, 2, 4}, {1, 0, 0, 0, -2, 0, 6}, {1, -1, -1, 1, 1, -1, 1}};
        SwapTables[] benches = {Lead.shape(4, 1), Lead.shape(3, 1, 1), Lead.shape(1, 1, 1, 1, 1)};
        for (int i = 0; i < benches.length; i++) {
            for (int k = 0; k < 7; k++) {
                due.is("19: " + i + " of " + k, benches[i].characterOf(k), table[i][k]);
            }
            due.is("19: k", benches[i].characterOf(7), VOID);
            due.is("19: k below", benches[i].characterOf(-1), VOID);
        }
        due.is("19: k of 3", new SwapTables().characterOf(3), VOID);
    }

    private static void branch() {
        SwapTables x = Lead.shape(3, 1, 1);
        due.is("20: bits", x.branch(-1), 5);
        due.is("20: 2, 1, 1 is left", x.branch(0), 3);
        due.is("20: row 1 can't", x.branch(1), NOT);
        due.is("20: 3, 1 is left", x.branch(2), 3);
        due.is("20: no row", x.branch(3), BAD);
        due.is("20: below", x.branch(-2), BAD);
        due.is("20: far", x.branch(Integer.MAX_VALUE), BAD);
        x.shape(1, 0, 0, 0, 0);
        due.is("20: nothing is left", x.branch(0), 1);
        x.shape(1, 1, 1, 1, 1);
        due.is("20: bits of a column", x.branch(-1), 16);
        due.is("20: of a column", x.branch(4), 1);
        due.is("20: row 5", x.branch(5), BAD);
    }

    private static void vector() {
        SwapTables x = Lead.shape(3, 1);
        x.row(0, 4);
        due.is("21: over a row", x.vector(0, 2), 3);
        for (int k = 0; k < 3; k++) {
            due.is("21: numbers", x.has(0, k), k == 2 ? 1 : 0);
        }
        x.give(0, 0, 5);
        due.is("21: anew", x.vector(0, 1), 3);
        due.is("21: anew, of 0", x.has(0, 0), 0);
        due.is("21: k", x.vector(0, 3), BAD);
        due.is("21: k below", x.vector(0, -1), BAD);
        for (int shelf : BEYOND) {
            due.is("21: shelf", x.vector(shelf, 0), BAD);
        }
        due.is("21: a refusal leaves it", x.has(0, 1), 1);
    }

    private static void give() {
        SwapTables x = new SwapTables();
        due.is("22: nothing", x.give(1, 0, 1), VOID);
        x.row(1, 4);
        due.is("22: a row", x.give(1, 0, 1), VOID);
        x.vector(1, 0);
        due.is("22: what it was", x.give(1, 0, 999), 1);
        due.is("22: again", x.give(1, 0, -999), 999);
        due.is("22: too much", x.give(1, 0, 1000), VOID);
        due.is("22: too little", x.give(1, 0, -1000), VOID);
        due.is("22: k", x.give(1, 2, 0), VOID);
        due.is("22: k below", x.give(1, -1, 0), VOID);
        for (int shelf : BEYOND) {
            due.is("22: shelf", x.give(shelf, 0, 0), VOID);
        }
        due.is("22: a refusal leaves it", x.has(1, 0), -999);
    }

    private static void has() {
        SwapTables x = new SwapTables();
        due.is("23: nothing", x.has(2, 0), VOID);
        x.row(2, 4);
        due.is("23: a row", x.has(2, 0), VOID);
        x.vector(2, 1);
        due.is("23: has", x.has(2, 1), 1);
        due.is("23: k", x.has(2, 2), VOID);
        due.is("23: k below", x.has(2, -1), VOID);
        for (int shelf : BEYOND) {
            due.is("23: shelf", x.has(shelf, 0), VOID);
        }
    }

    private static void acts() {
        SwapTables x = Lead.read(new SwapTables(), 1, "(123)");
        due.is("24: nothing", x.acts(0, 1), -11);
        due.is("24: r before nothing", x.acts(0, 4), BAD);
        x.row(0, 3);
        due.is("24: a row", x.acts(0, 1), -12);
        x.vector(0, 0);
        x.give(0, 0, 3);
        x.give(0, 1, 5);
        due.is("24: acts", x.acts(0, 1), 1);
        due.is("24: of 0", x.has(0, 0), 5);
        due.is("24: of 1", x.has(0, 1), -8);
        x.give(0, 0, 500);
        x.give(0, 1, 500);
        due.is("24: beyond", x.acts(0, 1), STATE);
        due.is("24: left as it was", x.has(0, 0), 500);
        due.is("24: left as it was", x.has(0, 1), 500);
        x.give(0, 1, 499);
        due.is("24: just not beyond", x.acts(0, 1), 1);
        due.is("24: -999", x.has(0, 1), -999);
        for (int beyond : BEYOND) {
            due.is("24: shelf", x.acts(beyond, 0), BAD);
            due.is("24: r", x.acts(0, beyond), BAD);
        }
        due.is("24: no step", x.count(0), 1);
    }

    private static void actsOnSix() {
        SwapTables x = Lead.shape(3, 1, 1);
        x.swap(0, 1);
        for (int k = 0; k < 6; k++) {
            x.vector(1, k);
            due.is("24: on six", x.acts(1, 0), 1);
            for (int j = 0; j < 6; j++) {
                due.is("24: its number is WHOLE", x.has(1, j), x.whole(0, k, j));
            }
            due.is("25: of six", x.inner(1, 1, 1) > 0 ? 1 : 0, 1);
        }
        // (13) makes of a and b: -a -b and b.
        x.shape(2, 1, 0, 0, 0);
        Lead.read(x, 0, "(13)");
        x.vector(1, 1);
        x.give(1, 0, 999);
        due.is("24: only the first would be beyond", x.acts(1, 0), STATE);
        due.is("24: the first is left", x.has(1, 0), 999);
        due.is("24: the second is left", x.has(1, 1), 1);
        x.give(1, 0, 998);
        due.is("24: not beyond", x.acts(1, 0), 1);
        due.is("24: of 0", x.has(1, 0), -999);
        due.is("24: of 1", x.has(1, 1), 1);
    }

    private static void inner() {
        SwapTables x = new SwapTables();
        x.vector(0, 0);
        due.is("25: nothing as other", x.inner(0, 1, 0), VOID);
        due.is("25: nothing as one", x.inner(1, 0, 0), VOID);
        x.row(1, 2);
        due.is("25: a row as other", x.inner(0, 1, 0), VOID);
        due.is("25: a row as one", x.inner(1, 0, 0), VOID);
        x.vector(1, 1);
        x.give(0, 1, 2);
        x.give(1, 0, 3);
        due.is("25: above: 3 and 2 times 3 by 4", x.inner(0, 1, 0), 9);
        due.is("25: below", x.inner(0, 1, 1), 2);
        due.is("25: with itself", x.inner(0, 0, 0), 4);
        due.is("25: lowest terms", x.inner(0, 0, 1), 1);
        x.give(1, 0, -3);
        due.is("25: below 0", x.inner(0, 1, 0), -3);
        due.is("25: below 0, below the line", x.inner(0, 1, 1), 2);
        x.give(1, 1, 0);
        x.give(1, 0, 0);
        due.is("25: 0", x.inner(0, 1, 0), 0);
        due.is("25: 0 by 1", x.inner(0, 1, 1), 1);
        due.is("25: part", x.inner(0, 1, 2), VOID);
        due.is("25: part below", x.inner(0, 1, -1), VOID);
        for (int shelf : BEYOND) {
            due.is("25: one", x.inner(shelf, 0, 0), VOID);
            due.is("25: other", x.inner(0, shelf, 0), VOID);
        }
    }

    private static void row() {
        SwapTables x = new SwapTables();
        due.is("26: 20", x.row(0, 20), 1);
        due.is("26: the last place", x.get(0, 19), 0);
        x.put(0, 3, 8);
        due.is("26: anew", x.row(0, 20), 1);
        due.is("26: all 0", x.get(0, 3), 0);
        due.is("26: 21", x.row(0, 21), BAD);
        due.is("26: -2", x.row(0, -2), -14);
        due.is("26: far below", x.row(0, Integer.MIN_VALUE), -14);
        due.is("26: a refusal leaves it", x.get(0, 19), 0);
        due.is("26: 0", x.row(1, 0), 1);
        due.is("26: of 0 is something", x.judge(1), NOT);
        due.is("26: nothing", x.row(1, -1), 1);
        due.is("26: nothing lies there", x.judge(1), -11);
        x.vector(1, 0);
        due.is("26: nothing over a vector", x.row(1, -1), 1);
        due.is("26: no vector", x.has(1, 0), VOID);
        for (int shelf : BEYOND) {
            due.is("26: shelf", x.row(shelf, 1), BAD);
            due.is("26: shelf first", x.row(shelf, -2), BAD);
        }
    }

    private static void put() {
        SwapTables x = new SwapTables();
        due.is("27: nothing", x.put(0, 0, 1), -11);
        due.is("27: nothing before the place", x.put(0, -1, 1), -11);
        x.vector(0, 0);
        due.is("27: a vector", x.put(0, 0, 1), -12);
        due.is("27: a vector before the place", x.put(0, 99, 1), -12);
        x.row(0, 2);
        due.is("27: put", x.put(0, 1, Integer.MIN_VALUE), 1);
        due.is("27: is there", x.get(0, 1), Integer.MIN_VALUE);
        due.is("27: place", x.put(0, 2, 1), -13);
        due.is("27: place below", x.put(0, -1, 1), -13);
        for (int shelf : BEYOND) {
            due.is("27: shelf", x.put(shelf, 0, 1), BAD);
        }
    }

    private static void get() {
        SwapTables x = new SwapTables();
        due.is("28: nothing", x.get(0, 0), VOID);
        x.vector(0, 0);
        due.is("28: a vector", x.get(0, 0), VOID);
        Lead.row(x, 0, 4, -5);
        due.is("28: get", x.get(0, 0), 4);
        due.is("28: get", x.get(0, 1), -5);
        due.is("28: place", x.get(0, 2), VOID);
        due.is("28: place below", x.get(0, -1), VOID);
        for (int shelf : BEYOND) {
            due.is("28: shelf", x.get(shelf, 0), VOID);
        }
    }

    private static void film() {
        SwapTables x = Lead.shape(2, 2);
        x.vector(0, 0);
        due.is("29: film", x.film(0, 1), 4);
        int[] cells = {1, 3, 2, 4};
        for (int i = 0; i < 4; i++) {
            due.is("29: cell", x.get(0, i), cells[i]);
        }
        due.is("29: no more", x.get(0, 4), VOID);
        due.is("29: which", x.which(0), 1);
        due.is("29: k", x.film(0, 2), BAD);
        due.is("29: k below", x.film(0, -1), BAD);
        for (int shelf : BEYOND) {
            due.is("29: shelf", x.film(shelf, 0), BAD);
        }
    }

    private static void judge() {
        SwapTables x = Lead.shape(3, 1);
        due.is("30: nothing", x.judge(0), -11);
        x.vector(0, 0);
        due.is("30: a vector", x.judge(0), -12);
        Lead.row(x, 0, 1, 2, 1, 3, 2, 1);
        due.is("30: the longest", x.judge(0), NOT);
        Lead.row(x, 0, 1, 2, 1, 3, 2, 1, 3);
        due.is("30: one more", x.judge(0), 6);
        Lead.row(x, 0, 1, 2, 1, 2, 0);
        due.is("30: shorter", x.judge(0), 3);
        Lead.row(x, 0, 1, 4, 1);
        due.is("30: no swap", x.judge(0), 1);
        Lead.row(x, 0, 0);
        due.is("30: 0", x.judge(0), 0);
        Lead.row(x, 0);
        due.is("30: none", x.judge(0), NOT);
        x.shape(1, 0, 0, 0, 0);
        Lead.row(x, 0, 1);
        due.is("30: one thing has no swap", x.judge(0), 0);
        for (int shelf : BEYOND) {
            due.is("30: shelf", x.judge(shelf), BAD);
        }
    }

    private static void back() {
        SwapTables x = new SwapTables();
        x.swap(0, 1);
        x.times(1, 0, 0);
        x.times(2, 0, 1);
        x.swap(3, 1);
        x.swap(3, 2);
        x.turn(3);
        Lead.read(x, 1, "(123)");
        due.is("31: steps", x.count(0), 6);
        due.is("31: of read", x.back(), 5);
        due.order("31: of read", x, 1, 1, 2, 3);
        due.is("31: of turn", x.back(), 4);
        due.order("31: of turn", x, 3, 2, 3, 1);
        due.is("31: of swap", x.back(), 3);
        due.order("31: of swap", x, 3, 2, 1, 3);
        due.is("31: of swap again", x.back(), 2);
        due.is("31: of times", x.back(), 1);
        due.order("31: of times", x, 2, 1, 2, 3);
        due.is("31: the last", x.back(), 0);
        due.order("31: as at first", x, 0, 1, 2, 3);
        due.is("31: none", x.back(), STATE);
        due.is("31: none again", x.back(), STATE);
    }

    private static void backForgets() {
        SwapTables x = new SwapTables();
        x.swap(1, 2);
        for (int i = 0; i < 11; i++) {
            x.swap(0, 1 + i % 2);
        }
        due.is("31: ten", x.count(0), 10);
        for (int i = 9; i >= 0; i--) {
            due.is("31: back", x.back(), i);
        }
        due.is("31: the eldest is none", x.back(), STATE);
        due.order("31: the first swap stays", x, 0, 2, 1, 3);
        due.order("31: and that of 1", x, 1, 1, 3, 2);
        x.swap(0, 1);
        x.swap(0, 9);
        x.turn(7);
        due.is("31: refusals are no steps", x.count(0), 1);
        Lead.read(x, 0, "e");
        due.is("31: read of what it was is none", x.count(0), 1);
        x.times(0, 0, 0);
        due.is("31: times of what it was is none", x.count(0), 1);
    }

    private static void backThroughAll() {
        SwapTables x = Lead.shape(4);
        int many = 17;
        int[] told = new int[many + 1];
        for (int i = 0; i < many; i++) {
            told[i] = targets(x);
            x.swap(i * i % 4 + i / 8, 1 + i % 3);
        }
        for (int i = many - 1; i >= many - 10; i--) {
            x.back();
            due.is("31: as before step " + i, targets(x), told[i]);
        }
        due.is("31: no more than ten", x.back(), STATE);
    }

    /** All REGISTERS as one number. */
    private static int targets(SwapTables x) {
        int told = 0;
        for (int r = 0; r < 4; r++) {
            for (int i = 1; i <= 4; i++) {
                told = told * 31 + x.takes(r, i);
            }
        }
        return told;
    }

    private static void feed() {
        SwapTables x = new SwapTables();
        due.is("32: 32", x.feed(32), 1);
        due.is("32: 126", x.feed(126), 2);
        int[] none = {31, 127, 0, -1, 256 + 's', Integer.MAX_VALUE, Integer.MIN_VALUE};
        for (int letter : none) {
            due.is("32: no byte", x.feed(letter), BAD);
        }
        for (int i = 3; i <= 80; i++) {
            due.is("32: feed", x.feed('s'), i);
        }
        due.is("32: full", x.feed('s'), FULL);
        due.is("32: BAD first", x.feed(31), BAD);
        due.is("32: still 80", x.count(1), 80);
    }

    private static void wipe() {
        SwapTables x = new SwapTables();
        due.is("33: none", x.wipe(), 0);
        Lead.feed(x, "s1*x");
        due.is("33: four", x.wipe(), 4);
        due.is("33: none left", x.count(1), 0);
        due.text(x, "s2", 1);
    }

    private static void read() {
        SwapTables x = Lead.shape(4, 1);
        due.text(x, "e", 0);
        due.text(x, "s1*s2", 2);
        due.order("34: in this order", x, 0, 2, 3, 1, 4, 5);
        due.text(x, "~[s1*s2]", 2);
        due.order("34: turned", x, 0, 3, 1, 2, 4, 5);
        due.text(x, "~s1*s2", 2);
        due.order("34: only the part is turned", x, 0, 2, 3, 1, 4, 5);
        due.text(x, "(1325)", 7);
        due.order("34: a cycle", x, 0, 3, 5, 2, 4, 1);
        due.text(x, "~(1325)", 7);
        due.order("34: a cycle turned", x, 0, 5, 3, 1, 4, 2);
        due.text(x, "~~(1325)", 7);
        due.order("34: turned twice", x, 0, 3, 5, 2, 4, 1);
        due.text(x, "[s4*~[(123)*[s1]]]*e*(45)", 3);
        due.order("34: brackets", x, 0, 3, 2, 1, 4, 5);
        due.text(x, "[[[e]]]*[[[s1]]]", 1);
        due.text(x, "(54321)", 4);
        Lead.feed(x, "s1");
        for (int r : BEYOND) {
            due.is("34: r", x.read(r), BAD);
        }
        due.is("34: the tape stays by BAD", x.count(1), 2);
        due.is("34: and is read then", x.read(3), 1);
        due.is("34: no why", x.count(2), 0);
        StringBuilder longest = new StringBuilder();
        for (int i = 0; i < 26; i++) {
            longest.append("s1*");
        }
        due.text(x, longest.append("s2").toString(), 1);
        due.order("34: 80 bytes", x, 0, 1, 3, 2, 4, 5);
        due.text(Lead.shape(1), "~[e*e]", 0);
    }

    private static void readFaults() {
        String[] texts = {"", "*", "s", "s0", "s6", "s12", "(", "()", "(1", "(1)", "(12", "(126)", "(120)", "(1,2)", "~", "~~*", "[",
            "[]", "[e", "[e*", "[e*]", "e]", "[e]]", "e*", "ee", "e e", " e", "E", "[[[[e]]]]", "s1s2", "s1~s2", "(12)(34)",
            "(1111(", "[[[e]*[e]*[[e]]]]", "e**e", "s~1", "(~12)", "x"};
        int[] faults = {0, 0, 1, 1, 1, 2, 1, 1, 2, 2, 3, 3, 3, 2, 1, 2, 1, 1, 2, 3, 3, 1, 3, 2, 1, 1, 0, 0, 3, 2, 2, 4, 5, 11, 2, 1, 1, 0};
        SwapTables x = Lead.shape(5);
        x.swap(0, 1);
        for (int i = 0; i < texts.length; i++) {
            due.text(x, texts[i], -100 - faults[i]);
        }
        due.is("34: no step by a fault", x.count(0), 1);
        due.order("34: nothing changes by a fault", x, 0, 2, 1, 3, 4, 5);
        x.shape(2, 1, 0, 0, 0);
        due.text(x, "s5*(44)*x", -108);
        due.troubles("34: the fault is told, not what is wrong", x, 1, 8);
    }

    private static void readWrong() {
        SwapTables x = new SwapTables();
        String[] texts = {"s3", "s5", "(14)", "(11)", "(1231)", "e*[s1*~(124)]", "(1212)", "(41)*s5", "(114)", "(12345)"};
        int[] places = {1, 1, 2, 2, 4, 10, 3, 1, 2, 4};
        for (int i = 0; i < texts.length; i++) {
            due.text(x, texts[i], NOT);
            int last = x.count(2) - 1;
            due.is("34: sort of " + texts[i], x.why(last, 0), 4);
            due.is("34: place of " + texts[i], x.why(last, 1), places[i]);
        }
        due.order("34: nothing changes by what is wrong", x, 0, 1, 2, 3);
        due.is("34: no step by what is wrong", x.count(0), 0);
        due.text(Lead.shape(5), "s5", NOT);
        due.text(Lead.shape(1), "s1", NOT);
        due.text(Lead.shape(1), "(11)", NOT);
    }

    private static void why() {
        SwapTables x = new SwapTables();
        due.text(x, "[~[~~[s", -107);
        due.troubles("35: all open", x, 2, 0, 3, 1, 2, 2, 3, 3, 3, 4, 2, 5, 1, 7);
        due.text(x, "~[~s1x", -105);
        due.troubles("35: the part is whole", x, 3, 0, 2, 1, 1, 5);
        due.text(x, "~[s1]x", -105);
        due.troubles("35: the bracket is shut, and its ~", x, 1, 5);
        due.text(x, "~~[s1]*x", -107);
        due.troubles("35: behind the star", x, 1, 7);
        due.text(x, "[~e*~", -105);
        due.troubles("35: the second ~ alone", x, 2, 0, 3, 4, 1, 5);
        due.text(x, "~[[s1]*s3]", NOT);
        due.troubles("35: wrong", x, 3, 0, 2, 1, 4, 8);
        due.text(x, "~~s3*(44)", NOT);
        due.troubles("35: the first wrong one", x, 3, 0, 3, 1, 4, 3);
        due.text(x, "[[[[", -103);
        due.troubles("35: the fourth is not open", x, 2, 0, 2, 1, 2, 2, 1, 3);
        due.text(x, "~(1)", -103);
        due.troubles("35: in a cycle", x, 3, 0, 1, 3);
        due.text(x, "", -100);
        due.troubles("35: nothing told", x, 1, 0);
        StringBuilder turned = new StringBuilder();
        for (int i = 0; i < 80; i++) {
            turned.append('~');
        }
        due.text(x, turned.toString(), -180);
        due.is("35: 81 troubles", x.count(2), 81);
        due.is("35: the last ~", x.why(79, 1), 79);
        due.is("35: the fault", x.why(80, 1), 80);
        due.is("35: i below", x.why(-1, 0), BAD);
        due.is("35: what", x.why(0, 2), BAD);
        due.is("35: what below", x.why(0, -1), BAD);
        due.is("35: BAD before NOT", x.why(100, 2), BAD);
        due.is("35: not so many", x.why(81, 1), NOT);
        due.is("35: far more", x.why(Integer.MAX_VALUE, 0), NOT);
    }

    private static void whyStays() {
        SwapTables x = new SwapTables();
        x.image();
        due.text(x, "[s3]", NOT);
        due.text(x, "s2", 1);
        due.troubles("35: stays by a read", x, 2, 0, 4, 2);
        due.is("35: BAD", x.read(4), BAD);
        x.shape(3, 0, 0, 0, 0);
        x.restore();
        x.wipe();
        x.back();
        due.troubles("35: stays", x, 2, 0, 4, 2);
        due.text(x, "e!", -101);
        due.troubles("35: the next one", x, 1, 1);
    }

    private static void image() {
        SwapTables x = new SwapTables();
        x.swap(0, 1);
        due.is("36: N", x.image(), 3);
        due.is("36: steps stay", x.count(0), 1);
        x.shape(4, 1, 0, 0, 0);
        due.is("36: N of another", x.image(), 5);
        x.shape(1, 0, 0, 0, 0);
        due.is("36: the latest", x.restore(), 5);
        due.is("36: its shape", x.of(2), 4);
    }

    private static void restore() {
        SwapTables x = new SwapTables();
        due.is("37: none", x.restore(), STATE);
        x.swap(2, 2);
        x.vector(0, 1);
        Lead.row(x, 1, 5, 6);
        x.image();
        x.give(0, 1, 44);
        x.put(1, 0, 7);
        x.row(2, 3);
        x.swap(2, 1);
        x.feed('e');
        x.shape(3, 2, 0, 0, 0);
        x.swap(0, 4);
        x.row(1, -1);
        for (int twice = 0; twice < 2; twice++) {
            due.is("37: N", x.restore(), 3);
            due.is("37: D", x.of(2), 2);
            due.order("37: register", x, 2, 1, 3, 2);
            due.order("37: register 0", x, 0, 1, 2, 3);
            due.is("37: vector", x.has(0, 1), 1);
            due.is("37: row", x.get(1, 0), 5);
            due.is("37: row, place 1", x.get(1, 1), 6);
            due.is("37: nothing", x.judge(2), -11);
            due.is("37: no steps", x.back(), STATE);
            due.is("37: the tape stays", x.count(1), 1);
            x.give(0, 1, 3);
            x.put(1, 0, 9);
            x.swap(2, 1);
        }
    }

    private static void count() {
        SwapTables x = Lead.shape(3, 1, 1);
        Lead.read(x, 0, "(15)");
        Lead.read(x, 1, "(12345)");
        x.swap(3, 1);
        x.row(0, 0);
        x.vector(3, 0);
        Lead.read(x, 2, "[~");
        Lead.feed(x, "s1*s2");
        int[] counts = {3, 5, 3, 2, 12};
        for (int what = 0; what < 5; what++) {
            due.is("38: count " + what, x.count(what), counts[what]);
        }
        due.is("38: below", x.count(-1), BAD);
        due.is("38: above", x.count(5), BAD);
        x.row(3, -1);
        due.is("38: a shelf less", x.count(3), 1);
    }
}

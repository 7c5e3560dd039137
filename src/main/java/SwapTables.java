/**
 * A bench for orders of up to five things acting by tables. The document (../shared/DOC.md) tells
 * what each call promises; words in capitals are its words.
 */
public final class SwapTables {
    public static final int BAD = -1, NOT = -2, FULL = -3, STATE = -5;
    public static final long VOID = Long.MIN_VALUE;

    private static final int NOTHING_THERE = -11;
    private static final int OTHER_SORT = -12;
    private static final int PLACE_OUTSIDE = -13;
    private static final int SIZE_BELOW = -14;
    private static final int FAULTS_FROM = -100;

    private static final int MOST_CELLS = 5;
    private static final int MOST_STANDARD = 6;
    private static final int REGISTERS = 4;
    private static final int SHELVES = 4;
    private static final int MOST_PLACES = 20;
    private static final int MOST_NUMBER = 999;
    private static final int MOST_BYTES = 80;

    private final Shape shape = new Shape();
    private final WholeAxes wholeAxes = new WholeAxes(shape);
    private final SeminormalAxes seminormalAxes = new SeminormalAxes(shape);
    private final int[] registers = new int[REGISTERS];
    private final Shelf[] shelves = Shelf.emptyOnes();
    private final Steps steps = new Steps();
    private final byte[] tape = new byte[MOST_BYTES];
    private int bytesOnTape;
    private final Reader reader = new Reader();
    private final Image taken = new Image();
    private final int[] sums = new int[MOST_STANDARD];

    public SwapTables() {
        become(Partitions.codeOf(2, 1, 0, 0, 0));
    }

    public int shape(int a, int b, int c, int d, int e) {
        boolean falls = a >= b && b >= c && c >= d && d >= e && e >= 0;
        if (!falls || a < 1 || a > MOST_CELLS || a + b + c + d + e > MOST_CELLS) {
            return BAD;
        }
        become(Partitions.codeOf(a, b, c, d, e));
        for (int i = 0; i < SHELVES; i++) {
            if (shelves[i].sort == Shelf.VECTOR) {
                shelves[i].hold(Shelf.NOTHING, 0);
            }
        }
        return shape.d;
    }

    public int of(int what) {
        switch (what) {
            case 0: return shape.n;
            case 1: return Partitions.size(shape.code);
            case 2: return shape.d;
            case 3: return shape.hooksMultiplied();
            case 4: return Partitions.numberOf(shape.n, shape.code);
            default: return BAD;
        }
    }

    public long cell(int row, int column, int what) {
        if (!shape.hasCell(row, column)) {
            return VOID;
        }
        switch (what) {
            case 0: return shape.hook(row, column);
            case 1: return column - row;
            default: return VOID;
        }
    }

    public int standard(int k, int i, int what) {
        if (!isStandard(k) || !isNumber(i)) {
            return BAD;
        }
        switch (what) {
            case 0: return shape.rowIn(k, i);
            case 1: return shape.columnIn(k, i);
            default: return BAD;
        }
    }

    public int which(int shelf) {
        int refusal = refusalOf(shelf, Shelf.ROW);
        if (refusal != 0) {
            return refusal;
        }
        if (shelves[shelf].size < shape.n) {
            return PLACE_OUTSIDE;
        }
        if (!shape.isFilling(shelves[shelf].numbers)) {
            return STATE;
        }
        for (int k = 0; k < shape.d; k++) {
            if (shape.isToldBy(k, shelves[shelf].numbers)) {
                return k;
            }
        }
        return NOT;
    }

    public int swap(int r, int k) {
        if (!isRegister(r) || !isSwap(k)) {
            return BAD;
        }
        return makeOtherwise(r, Orders.product(registers[r], Orders.neighbours(k)));
    }

    public int times(int r, int s, int t) {
        if (!isRegister(r) || !isRegister(s) || !isRegister(t)) {
            return BAD;
        }
        return makeOtherwise(r, Orders.product(registers[s], registers[t]));
    }

    public int turn(int r) {
        if (!isRegister(r)) {
            return BAD;
        }
        return makeOtherwise(r, Orders.turned(registers[r]));
    }

    public int takes(int r, int i) {
        if (!isRegister(r) || !isNumber(i)) {
            return BAD;
        }
        return Orders.target(registers[r], i);
    }

    public long told(int r, int what) {
        if (!isRegister(r)) {
            return VOID;
        }
        int order = registers[r];
        switch (what) {
            case 0: return Orders.length(order);
            case 1: return Orders.length(order) % 2 == 0 ? 1 : -1;
            case 2: return Partitions.numberOf(shape.n, Orders.typeOf(order, shape.n));
            default: return VOID;
        }
    }

    public int word(int r, int i) {
        if (!isRegister(r) || i < 0) {
            return BAD;
        }
        return i < Orders.length(registers[r]) ? Orders.letter(registers[r], i) : NOT;
    }

    public int partition(int k, int i) {
        if (k == -1) {
            return Partitions.amount(shape.n);
        }
        if (!isPartition(k) || i < -1) {
            return BAD;
        }
        int code = Partitions.code(shape.n, k);
        if (i == -1) {
            return Partitions.size(code);
        }
        return i < Partitions.size(code) ? Partitions.part(code, i) : NOT;
    }

    public long straight(int shelf, int j) {
        if (refusalOf(shelf, Shelf.ROW) != 0 || !isStandard(j)) {
            return VOID;
        }
        Shelf lying = shelves[shelf];
        if (lying.size < shape.n || !shape.isFilling(lying.numbers)) {
            return VOID;
        }
        wholeAxes.straightenTold(lying.numbers);
        return wholeAxes.made[j];
    }

    public long whole(int r, int k, int j) {
        if (!isRegister(r) || !isStandard(k) || !isStandard(j)) {
            return VOID;
        }
        wholeAxes.straightenTaken(k, registers[r]);
        return wholeAxes.made[j];
    }

    public long fraction(int r, int k, int j, int part) {
        if (!isRegister(r) || !isStandard(k) || !isStandard(j) || !isPart(part)) {
            return VOID;
        }
        return seminormalAxes.rowOf(registers[r], k).partAt(j, part);
    }

    public long norm(int k, int part) {
        if (!isStandard(k) || !isPart(part)) {
            return VOID;
        }
        return seminormalAxes.norms.partAt(k, part);
    }

    public long character(int r) {
        return isRegister(r) ? wholeAxes.trace(registers[r]) : VOID;
    }

    public long characterOf(int k) {
        if (!isPartition(k)) {
            return VOID;
        }
        return wholeAxes.trace(Orders.ofType(Partitions.code(shape.n, k)));
    }

    public int branch(int row) {
        if (row < -1 || row >= Partitions.size(shape.code)) {
            return BAD;
        }
        if (row == -1) {
            return shape.branches();
        }
        return shape.canLose(row) ? shape.standardWithLastIn(row) : NOT;
    }

    public int vector(int shelf, int k) {
        if (!isShelf(shelf) || !isStandard(k)) {
            return BAD;
        }
        shelves[shelf].hold(Shelf.VECTOR, shape.d);
        shelves[shelf].numbers[k] = 1;
        return shape.d;
    }

    public long give(int shelf, int k, int v) {
        if (!isInVector(shelf, k) || isBeyond(v)) {
            return VOID;
        }
        int was = shelves[shelf].numbers[k];
        shelves[shelf].numbers[k] = v;
        return was;
    }

    public long has(int shelf, int k) {
        return isInVector(shelf, k) ? shelves[shelf].numbers[k] : VOID;
    }

    public int acts(int shelf, int r) {
        if (!isShelf(shelf) || !isRegister(r)) {
            return BAD;
        }
        int refusal = refusalOf(shelf, Shelf.VECTOR);
        if (refusal != 0) {
            return refusal;
        }
        int[] numbers = shelves[shelf].numbers;
        wholeAxes.act(numbers, registers[r], sums);
        for (int j = 0; j < shape.d; j++) {
            if (isBeyond(sums[j])) {
                return STATE;
            }
        }
        System.arraycopy(sums, 0, numbers, 0, shape.d);
        return 1;
    }

    public long inner(int one, int other, int part) {
        if (refusalOf(one, Shelf.VECTOR) != 0 || refusalOf(other, Shelf.VECTOR) != 0 || !isPart(part)) {
            return VOID;
        }
        return seminormalAxes.innerProduct(shelves[one].numbers, shelves[other].numbers).partAt(0, part);
    }

    public int row(int shelf, int n) {
        if (!isShelf(shelf) || n > MOST_PLACES) {
            return BAD;
        }
        if (n < -1) {
            return SIZE_BELOW;
        }
        if (n == -1) {
            shelves[shelf].hold(Shelf.NOTHING, 0);
        } else {
            shelves[shelf].hold(Shelf.ROW, n);
        }
        return 1;
    }

    public int put(int shelf, int i, int v) {
        int refusal = refusalOf(shelf, Shelf.ROW);
        if (refusal != 0) {
            return refusal;
        }
        if (!shelves[shelf].hasPlace(i)) {
            return PLACE_OUTSIDE;
        }
        shelves[shelf].numbers[i] = v;
        return 1;
    }

    public long get(int shelf, int i) {
        if (refusalOf(shelf, Shelf.ROW) != 0 || !shelves[shelf].hasPlace(i)) {
            return VOID;
        }
        return shelves[shelf].numbers[i];
    }

    public int film(int shelf, int k) {
        if (!isShelf(shelf) || !isStandard(k)) {
            return BAD;
        }
        shelves[shelf].hold(Shelf.ROW, shape.n);
        shape.copyFilling(k, Orders.STAY, shelves[shelf].numbers);
        return shape.n;
    }

    public int judge(int shelf) {
        int refusal = refusalOf(shelf, Shelf.ROW);
        if (refusal != 0) {
            return refusal;
        }
        int order = Orders.STAY;
        for (int i = 0; i < shelves[shelf].size; i++) {
            int k = shelves[shelf].numbers[i];
            if (!isSwap(k)) {
                return i;
            }
            int longer = Orders.product(order, Orders.neighbours(k));
            if (Orders.length(longer) <= Orders.length(order)) {
                return i;
            }
            order = longer;
        }
        return NOT;
    }

    public int back() {
        if (steps.size == 0) {
            return STATE;
        }
        registers[steps.latestRegister()] = steps.latestOrder();
        steps.size--;
        return steps.size;
    }

    public int feed(int letter) {
        if (letter < 32 || letter > 126) {
            return BAD;
        }
        if (bytesOnTape >= MOST_BYTES) {
            return FULL;
        }
        tape[bytesOnTape] = (byte) letter;
        bytesOnTape++;
        return bytesOnTape;
    }

    public int wipe() {
        int had = bytesOnTape;
        bytesOnTape = 0;
        return had;
    }

    public int read(int r) {
        if (!isRegister(r)) {
            return BAD;
        }
        int order = reader.workOut(tape, bytesOnTape, shape.n);
        bytesOnTape = 0;
        return order < 0 ? order : makeOtherwise(r, order);
    }

    public int why(int i, int what) {
        if (i < 0 || what < 0 || what > 1) {
            return BAD;
        }
        if (i >= reader.refused.size) {
            return NOT;
        }
        return what == 0 ? reader.refused.sorts[i] : reader.refused.places[i];
    }

    public int image() {
        taken.code = shape.code;
        System.arraycopy(registers, 0, taken.registers, 0, REGISTERS);
        Shelf.copyAll(shelves, taken.shelves);
        return shape.n;
    }

    public int restore() {
        if (taken.code == 0) {
            return STATE;
        }
        become(taken.code);
        System.arraycopy(taken.registers, 0, registers, 0, REGISTERS);
        Shelf.copyAll(taken.shelves, shelves);
        return shape.n;
    }

    public int count(int what) {
        switch (what) {
            case 0: return steps.size;
            case 1: return bytesOnTape;
            case 2: return reader.refused.size;
            case 3: return shelvesInUse();
            case 4: return lengthsTogether();
            default: return BAD;
        }
    }

    /** SHAPE with all that is told by it, REGISTERS as at first, no STEPS; SHELVES are the caller's matter. */
    private void become(int code) {
        shape.build(code);
        wholeAxes.build();
        seminormalAxes.build();
        for (int r = 0; r < REGISTERS; r++) {
            registers[r] = Orders.STAY;
        }
        steps.size = 0;
    }

    private int makeOtherwise(int r, int order) {
        if (registers[r] != order) {
            steps.keep(r, registers[r]);
            registers[r] = order;
        }
        return Orders.length(order);
    }

    private int shelvesInUse() {
        int inUse = 0;
        for (int i = 0; i < SHELVES; i++) {
            if (shelves[i].sort != Shelf.NOTHING) {
                inUse++;
            }
        }
        return inUse;
    }

    private int lengthsTogether() {
        int together = 0;
        for (int r = 0; r < REGISTERS; r++) {
            together += Orders.length(registers[r]);
        }
        return together;
    }

    /** 0, if a thing of this sort lies there. */
    private int refusalOf(int shelf, int sort) {
        if (!isShelf(shelf)) {
            return BAD;
        }
        if (shelves[shelf].sort == Shelf.NOTHING) {
            return NOTHING_THERE;
        }
        return shelves[shelf].sort == sort ? 0 : OTHER_SORT;
    }

    private boolean isInVector(int shelf, int k) {
        return refusalOf(shelf, Shelf.VECTOR) == 0 && isStandard(k);
    }

    private boolean isStandard(int k) {
        return k >= 0 && k < shape.d;
    }

    private boolean isNumber(int i) {
        return i >= 1 && i <= shape.n;
    }

    private boolean isSwap(int k) {
        return k >= 1 && k < shape.n;
    }

    private boolean isPartition(int k) {
        return k >= 0 && k < Partitions.amount(shape.n);
    }

    private static boolean isRegister(int r) {
        return r >= 0 && r < REGISTERS;
    }

    private static boolean isShelf(int shelf) {
        return shelf >= 0 && shelf < SHELVES;
    }

    private static boolean isPart(int part) {
        return part == 0 || part == 1;
    }

    private static boolean isBeyond(int v) {
        return v < -MOST_NUMBER || v > MOST_NUMBER;
    }

    /**
     * An ORDER is one int: the four bits at 4 * (i - 1) tell where i goes. Numbers above N stay, so
     * that N is no matter but for the TYPE.
     */
    private static final class Orders {
        static final int STAY = 0x54321;

        static int target(int order, int i) {
            return order >> 4 * (i - 1) & 15;
        }

        static int withTarget(int order, int i, int target) {
            int bits = 4 * (i - 1);
            return order & ~(15 << bits) | target << bits;
        }

        /** q is done first. */
        static int product(int p, int q) {
            int made = STAY;
            for (int i = 1; i <= MOST_CELLS; i++) {
                made = withTarget(made, i, target(p, target(q, i)));
            }
            return made;
        }

        static int turned(int order) {
            int made = STAY;
            for (int i = 1; i <= MOST_CELLS; i++) {
                made = withTarget(made, target(order, i), i);
            }
            return made;
        }

        /** SWAP k. */
        static int neighbours(int k) {
            return withTarget(withTarget(STAY, k, k + 1), k + 1, k);
        }

        static int length(int order) {
            int length = 0;
            for (int j = 2; j <= MOST_CELLS; j++) {
                for (int i = 1; i < j; i++) {
                    if (target(order, i) > target(order, j)) {
                        length++;
                    }
                }
            }
            return length;
        }

        /** Of the WORD the SWAP at i, i being below the LENGTH. */
        static int letter(int order, int i) {
            int rest = order;
            int letter = firstLetter(rest);
            for (int at = 0; at < i; at++) {
                rest = product(neighbours(letter), rest);
                letter = firstLetter(rest);
            }
            return letter;
        }

        /** A WORD can begin with k just if SWAP k makes the rest shorter, so the least such k begins the first one. */
        private static int firstLetter(int order) {
            int back = turned(order);
            for (int k = 1; k < MOST_CELLS; k++) {
                if (target(back, k) > target(back, k + 1)) {
                    return k;
                }
            }
            return 1;
        }

        /** The code of the TYPE. */
        static int typeOf(int order, int n) {
            int code = 0;
            int found = 0;
            for (int size = n; size >= 1; size--) {
                for (int i = 1; i <= n; i++) {
                    if (cycleSize(order, i) == size && beginsCycle(order, i)) {
                        code = Partitions.withPart(code, found, size);
                        found++;
                    }
                }
            }
            return code;
        }

        private static int cycleSize(int order, int i) {
            int size = 1;
            for (int at = target(order, i); at != i && size < MOST_CELLS; at = target(order, at)) {
                size++;
            }
            return size;
        }

        /** Each cycle is looked at once, from its least number. */
        private static boolean beginsCycle(int order, int i) {
            int at = i;
            for (int step = 0; step < MOST_CELLS; step++) {
                at = target(order, at);
                if (at < i) {
                    return false;
                }
            }
            return true;
        }

        /** Some ORDER of a TYPE: each cycle goes through numbers that are neighbours. */
        static int ofType(int code) {
            int made = STAY;
            int first = 1;
            for (int i = 0; i < Partitions.size(code); i++) {
                int last = first + Partitions.part(code, i) - 1;
                for (int at = first; at < last; at++) {
                    made = withTarget(made, at, at + 1);
                }
                made = withTarget(made, last, first);
                first = last + 1;
            }
            return made;
        }
    }

    /** A PARTITION is one int, its code: five figures of four bits, the greatest number first, 0 where there is none. */
    private static final class Partitions {
        private static final int[] CODES = {
            0x10000,
            0x20000, 0x11000,
            0x30000, 0x21000, 0x11100,
            0x40000, 0x31000, 0x22000, 0x21100, 0x11110,
            0x50000, 0x41000, 0x32000, 0x31100, 0x22100, 0x21110, 0x11111
        };
        /** Where those of n begin, at n; one more, where those of 5 end. */
        private static final int[] BEGIN = {0, 0, 1, 3, 6, 11, 18};

        static int codeOf(int a, int b, int c, int d, int e) {
            return a << 16 | b << 12 | c << 8 | d << 4 | e;
        }

        /** 0 behind the last one. */
        static int part(int code, int i) {
            return i < MOST_CELLS ? code >> 16 - 4 * i & 15 : 0;
        }

        static int withPart(int code, int i, int part) {
            return code | part << 16 - 4 * i;
        }

        static int size(int code) {
            int size = 0;
            for (int i = 0; i < MOST_CELLS; i++) {
                if (part(code, i) > 0) {
                    size++;
                }
            }
            return size;
        }

        static int amount(int n) {
            return BEGIN[n + 1] - BEGIN[n];
        }

        static int code(int n, int k) {
            return CODES[BEGIN[n] + k];
        }

        static int numberOf(int n, int code) {
            for (int k = 0; k < amount(n); k++) {
                if (code(n, k) == code) {
                    return k;
                }
            }
            return NOT;
        }
    }

    /** SHAPE and its STANDARD ones. Cells are numbered from 0 on, row by row. */
    private static final class Shape {
        private int code;
        private int n;
        private int d;
        private final int[] beginOfRow = new int[MOST_CELLS];
        private final int[] rowOfCell = new int[MOST_CELLS];
        private final int[] columnOfCell = new int[MOST_CELLS];
        /** In which cell of STANDARD k the number i stands, at k and i. */
        private final int[][] cellOf = new int[MOST_STANDARD][MOST_CELLS + 1];
        private final int[] cellNow = new int[MOST_CELLS + 1];
        private final int[] filledOfRow = new int[MOST_CELLS];

        void build(int newCode) {
            code = newCode;
            n = 0;
            d = 0;
            for (int row = 0; row < MOST_CELLS; row++) {
                beginOfRow[row] = n;
                filledOfRow[row] = 0;
                for (int column = 0; column < lengthOf(row) && n < MOST_CELLS; column++) {
                    rowOfCell[n] = row;
                    columnOfCell[n] = column;
                    n++;
                }
            }
            fillFrom(this, 1);
        }

        /** Tries the rows from the top for each number, so that STANDARD ones come in their order. */
        private static void fillFrom(Shape shape, int number) {
            if (number > shape.n) {
                shape.keepFilling();
                return;
            }
            for (int row = 0; row < MOST_CELLS; row++) {
                if (shape.canTakeNext(row)) {
                    shape.cellNow[number] = shape.beginOfRow[row] + shape.filledOfRow[row];
                    shape.filledOfRow[row]++;
                    fillFrom(shape, number + 1);
                    shape.filledOfRow[row]--;
                }
            }
        }

        private boolean canTakeNext(int row) {
            return filledOfRow[row] < lengthOf(row)
                && (row == 0 || filledOfRow[row - 1] > filledOfRow[row]);
        }

        private void keepFilling() {
            if (d < MOST_STANDARD) {
                System.arraycopy(cellNow, 0, cellOf[d], 0, MOST_CELLS + 1);
                d++;
            }
        }

        int lengthOf(int row) {
            return Partitions.part(code, row);
        }

        boolean hasCell(int row, int column) {
            return row >= 0 && row < MOST_CELLS && column >= 0 && column < lengthOf(row);
        }

        int hook(int row, int column) {
            int hook = lengthOf(row) - column;
            for (int below = row + 1; below < MOST_CELLS; below++) {
                if (lengthOf(below) > column) {
                    hook++;
                }
            }
            return hook;
        }

        int hooksMultiplied() {
            int product = 1;
            for (int cell = 0; cell < n; cell++) {
                product *= hook(rowOfCell[cell], columnOfCell[cell]);
            }
            return product;
        }

        int rowIn(int k, int i) {
            return rowOfCell[cellOf[k][i]];
        }

        int columnIn(int k, int i) {
            return columnOfCell[cellOf[k][i]];
        }

        /** By how much CONTENT is more where s and 1 stands in STANDARD k than where s stands; never 0. */
        int distance(int k, int s) {
            return columnIn(k, s + 1) - rowIn(k, s + 1) - (columnIn(k, s) - rowIn(k, s));
        }

        /** Which STANDARD one is k with s and s and 1 changed; NOT: none. */
        int changed(int k, int s) {
            for (int j = 0; j < d; j++) {
                if (isTakenTo(k, Orders.neighbours(s), j)) {
                    return j;
                }
            }
            return NOT;
        }

        /** Whether STANDARD k with each number taken by the ORDER is STANDARD j. */
        private boolean isTakenTo(int k, int order, int j) {
            for (int i = 1; i <= n; i++) {
                if (cellOf[j][Orders.target(order, i)] != cellOf[k][i]) {
                    return false;
                }
            }
            return true;
        }

        /** STANDARD k with each number taken by an ORDER, cell by cell. */
        void copyFilling(int k, int order, int[] filling) {
            for (int i = 1; i <= n; i++) {
                filling[cellOf[k][i]] = Orders.target(order, i);
            }
        }

        boolean isFilling(int[] told) {
            int seen = 0;
            for (int cell = 0; cell < n; cell++) {
                if (told[cell] < 1 || told[cell] > n) {
                    return false;
                }
                seen |= 1 << told[cell];
            }
            return Integer.bitCount(seen) == n;
        }

        boolean isToldBy(int k, int[] told) {
            for (int i = 1; i <= n; i++) {
                if (told[cellOf[k][i]] != i) {
                    return false;
                }
            }
            return true;
        }

        boolean canLose(int row) {
            return lengthOf(row) > lengthOf(row + 1);
        }

        int branches() {
            int bits = 0;
            for (int row = 0; row < MOST_CELLS; row++) {
                if (canLose(row)) {
                    bits |= 1 << row;
                }
            }
            return bits;
        }

        int standardWithLastIn(int row) {
            int found = 0;
            for (int k = 0; k < d; k++) {
                if (rowIn(k, n) == row) {
                    found++;
                }
            }
            return found;
        }
    }

    /**
     * POLYTABLOIDS by their numbers at the TABLOIDS of STANDARD ones alone. These tell STRAIGHT: the
     * POLYTABLOID of STANDARD k has 1 at its own TABLOID and 0 at those of all before k.
     */
    private static final class WholeAxes {
        private final Shape shape;
        /** The number at the TABLOID of STANDARD j in the POLYTABLOID of STANDARD k, at k and j. */
        private final int[][] ofStandard = new int[MOST_STANDARD][MOST_STANDARD];
        private final int[] filling = new int[MOST_CELLS];
        private final int[] made = new int[MOST_STANDARD];

        WholeAxes(Shape shape) {
            this.shape = shape;
        }

        void build() {
            for (int k = 0; k < shape.d; k++) {
                shape.copyFilling(k, Orders.STAY, filling);
                for (int j = 0; j < shape.d; j++) {
                    ofStandard[k][j] = numberAtTabloid(j);
                }
            }
        }

        /**
         * At most one ORDER within the columns brings each number into its row of the TABLOID: then
         * no two numbers of a column have the same row there, and SIGN is by those that pass each
         * other. (That no column has a row too low follows: the rows have just so many places.)
         */
        private int numberAtTabloid(int j) {
            int sign = 1;
            for (int low = 1; low < shape.n; low++) {
                for (int high = 0; high < low; high++) {
                    if (shape.columnOfCell[high] == shape.columnOfCell[low]) {
                        sign *= Integer.signum(shape.rowIn(j, filling[low]) - shape.rowIn(j, filling[high]));
                    }
                }
            }
            return sign;
        }

        private void straighten() {
            for (int j = 0; j < shape.d; j++) {
                int left = numberAtTabloid(j);
                for (int k = 0; k < j; k++) {
                    left -= made[k] * ofStandard[k][j];
                }
                made[j] = left;
            }
        }

        void straightenTold(int[] told) {
            System.arraycopy(told, 0, filling, 0, shape.n);
            straighten();
        }

        /** Makes WHOLE of the ORDER, of k and each j. */
        void straightenTaken(int k, int order) {
            shape.copyFilling(k, order, filling);
            straighten();
        }

        int trace(int order) {
            int sum = 0;
            for (int k = 0; k < shape.d; k++) {
                straightenTaken(k, order);
                sum += made[k];
            }
            return sum;
        }

        void act(int[] numbers, int order, int[] sums) {
            for (int j = 0; j < shape.d; j++) {
                sums[j] = 0;
            }
            for (int k = 0; k < shape.d; k++) {
                straightenTaken(k, order);
                for (int j = 0; j < shape.d; j++) {
                    sums[j] += numbers[k] * made[j];
                }
            }
        }
    }

    /** FRACTIONS and NORMS. */
    private static final class SeminormalAxes {
        private final Shape shape;
        private final FractionRow norms = new FractionRow();
        private final FractionRow one = new FractionRow();
        private final FractionRow other = new FractionRow();

        SeminormalAxes(Shape shape) {
            this.shape = shape;
        }

        /** From each STANDARD one but the first some change leads to one before it, of which the NORM is there already. */
        void build() {
            norms.clear();
            norms.add(0, 1, 1);
            for (int j = 1; j < shape.d; j++) {
                for (int s = 1; s < shape.n && norms.above[j] == 0; s++) {
                    int k = shape.changed(j, s);
                    if (k >= 0 && k < j) {
                        long square = (long) shape.distance(k, s) * shape.distance(k, s);
                        norms.add(j, norms.above[k] * (square - 1), norms.below[k] * square);
                    }
                }
            }
        }

        /** FRACTION of the ORDER, of k and each j; it stands till the next call. */
        FractionRow rowOf(int order, int k) {
            FractionRow now = one;
            FractionRow next = other;
            now.clear();
            now.add(k, 1, 1);
            // Of a product what is done first comes first here, too: the WORD's last SWAP.
            for (int i = Orders.length(order) - 1; i >= 0; i--) {
                goOn(now, Orders.letter(order, i), next);
                FractionRow free = now;
                now = next;
                next = free;
            }
            return now;
        }

        private void goOn(FractionRow from, int s, FractionRow to) {
            to.clear();
            for (int m = 0; m < shape.d; m++) {
                long x = shape.distance(m, s);
                long above = from.above[m];
                long below = from.below[m];
                to.add(m, above, below * x);
                int j = shape.changed(m, s);
                if (j > m) {
                    to.add(j, above, below);
                } else if (j >= 0) {
                    to.add(j, above * (x * x - 1), below * x * x);
                }
            }
        }

        /** It stands at place 0, till the next call. */
        FractionRow innerProduct(int[] left, int[] right) {
            one.clear();
            for (int k = 0; k < shape.d; k++) {
                one.add(0, (long) left[k] * right[k] * norms.above[k], norms.below[k]);
            }
            return one;
        }
    }

    /** Fractions in lowest terms, what is below the line above 0. */
    private static final class FractionRow {
        private final long[] above = new long[MOST_STANDARD];
        private final long[] below = new long[MOST_STANDARD];

        void clear() {
            for (int i = 0; i < MOST_STANDARD; i++) {
                above[i] = 0;
                below[i] = 1;
            }
        }

        /** What comes to it may have any terms, but no 0 below. */
        void add(int i, long moreAbove, long moreBelow) {
            long up = above[i] * moreBelow + moreAbove * below[i];
            long down = below[i] * moreBelow;
            long common = commonDivisor(up, down);
            if (common == 0 || down == 0) {
                return;
            }
            long sign = Long.signum(down);
            above[i] = up / common * sign;
            below[i] = down / common * sign;
        }

        private static long commonDivisor(long a, long b) {
            long x = Math.abs(a);
            long y = Math.abs(b);
            for (int i = 0; i < 200 && y != 0; i++) {
                long rest = x % y;
                x = y;
                y = rest;
            }
            return x;
        }

        long partAt(int i, int part) {
            return part == 0 ? above[i] : below[i];
        }
    }

    /** What lies on a SHELF. */
    private static final class Shelf {
        static final int NOTHING = 0;
        static final int VECTOR = 1;
        static final int ROW = 2;

        private int sort;
        private int size;
        private final int[] numbers = new int[MOST_PLACES];

        static Shelf[] emptyOnes() {
            Shelf[] made = new Shelf[SHELVES];
            for (int i = 0; i < SHELVES; i++) {
                made[i] = new Shelf();
            }
            return made;
        }

        void hold(int newSort, int newSize) {
            sort = newSort;
            size = newSize;
            for (int i = 0; i < MOST_PLACES; i++) {
                numbers[i] = 0;
            }
        }

        boolean hasPlace(int i) {
            return i >= 0 && i < size;
        }

        static void copyAll(Shelf[] from, Shelf[] to) {
            for (int i = 0; i < SHELVES; i++) {
                to[i].sort = from[i].sort;
                to[i].size = from[i].size;
                System.arraycopy(from[i].numbers, 0, to[i].numbers, 0, MOST_PLACES);
            }
        }
    }

    /** STEPS, the eldest first: which REGISTER was made otherwise, and what it was. */
    private static final class Steps {
        private static final int MOST = 10;

        private int size;
        private final int[] registers = new int[MOST];
        private final int[] orders = new int[MOST];

        void keep(int register, int order) {
            if (size == MOST) {
                System.arraycopy(registers, 1, registers, 0, MOST - 1);
                System.arraycopy(orders, 1, orders, 0, MOST - 1);
                size--;
            }
            registers[size] = register;
            orders[size] = order;
            size++;
        }

        int latestRegister() {
            return registers[size - 1];
        }

        int latestOrder() {
            return orders[size - 1];
        }
    }

    /** THE IMAGE; code 0: none. */
    private static final class Image {
        private int code;
        private final int[] registers = new int[REGISTERS];
        private final Shelf[] shelves = Shelf.emptyOnes();
    }

    /** TROUBLES, or what is open so far, as rows of sorts and places. */
    private static final class Troubles {
        static final int FAULTY = 1;
        static final int BRACKET = 2;
        static final int TURNED = 3;
        static final int WRONG = 4;
        private static final int MOST = MOST_BYTES + 1;

        private int size;
        private final int[] sorts = new int[MOST];
        private final int[] places = new int[MOST];

        void add(int sort, int place) {
            if (size < MOST) {
                sorts[size] = sort;
                places[size] = place;
                size++;
            }
        }

        void copyOf(Troubles from) {
            size = from.size;
            System.arraycopy(from.sorts, 0, sorts, 0, size);
            System.arraycopy(from.places, 0, places, 0, size);
        }
    }

    /** Works a TEXT out byte by byte, and keeps WHY. */
    private static final class Reader {
        private static final int MOST_BRACKETS = 3;
        /** What is awaited next. */
        private static final int PART = 0;
        private static final int FIGURE_OF_SWAP = 1;
        private static final int CYCLE = 2;
        private static final int BEHIND_PART = 3;

        private final Troubles refused = new Troubles();
        private final Troubles open = new Troubles();
        /** The product so far outside (at 0) and within each [ that is open. */
        private final int[] made = new int[MOST_BRACKETS + 1];
        private int brackets;
        private int awaited;
        private int n;
        private boolean isWrong;
        private int cycle;
        private int figures;
        private int seen;
        private int first;
        private int last;

        /** The ORDER told, or the refusal, which is below 0. */
        int workOut(byte[] text, int length, int numbers) {
            begin(numbers);
            for (int place = 0; place < length; place++) {
                if (!goesOnWith(text[place], place)) {
                    return refuseFault(place);
                }
            }
            if (awaited != BEHIND_PART || brackets > 0) {
                return refuseFault(length);
            }
            return isWrong ? NOT : made[0];
        }

        private void begin(int numbers) {
            n = numbers;
            isWrong = false;
            open.size = 0;
            brackets = 0;
            made[0] = Orders.STAY;
            awaited = PART;
        }

        private int refuseFault(int place) {
            refuse(Troubles.FAULTY, place);
            return FAULTS_FROM - place;
        }

        private void refuse(int sort, int place) {
            refused.copyOf(open);
            refused.add(sort, place);
        }

        /** A FAULT may still come behind what is WRONG, and is told instead then; so reading goes on. */
        private void noteWrong(int place) {
            if (!isWrong) {
                isWrong = true;
                refuse(Troubles.WRONG, place);
            }
        }

        private boolean goesOnWith(int letter, int place) {
            switch (awaited) {
                case PART: return beginsPart(letter, place);
                case FIGURE_OF_SWAP: return endsSwap(letter, place);
                case CYCLE: return goesOnInCycle(letter, place);
                default: return goesOnBehindPart(letter);
            }
        }

        private boolean beginsPart(int letter, int place) {
            switch (letter) {
                case 's':
                    awaited = FIGURE_OF_SWAP;
                    return true;
                case '(':
                    beginCycle();
                    return true;
                case '~':
                    open.add(Troubles.TURNED, place);
                    return true;
                case '[':
                    return opensBracket(place);
                case 'e':
                    endPart(Orders.STAY);
                    return true;
                default:
                    return false;
            }
        }

        private boolean opensBracket(int place) {
            if (brackets >= MOST_BRACKETS) {
                return false;
            }
            open.add(Troubles.BRACKET, place);
            brackets++;
            made[brackets] = Orders.STAY;
            return true;
        }

        private boolean endsSwap(int letter, int place) {
            if (!isFigure(letter)) {
                return false;
            }
            int k = letter - '0';
            if (k < n) {
                endPart(Orders.neighbours(k));
            } else {
                noteWrong(place);
                endPart(Orders.STAY);
            }
            return true;
        }

        private void beginCycle() {
            awaited = CYCLE;
            cycle = Orders.STAY;
            figures = 0;
            seen = 0;
            first = 0;
            last = 0;
        }

        private boolean goesOnInCycle(int letter, int place) {
            if (isFigure(letter)) {
                if (!takesIntoCycle(letter - '0')) {
                    noteWrong(place);
                }
                return true;
            }
            if (letter == ')' && figures >= 2) {
                endPart(cycle);
                return true;
            }
            return false;
        }

        /** The cycle is closed at each figure; a WRONG one (false) stays out of it, so that it is an ORDER all the time. */
        private boolean takesIntoCycle(int number) {
            figures++;
            if (number > n || (seen >> number & 1) == 1) {
                return false;
            }
            seen |= 1 << number;
            if (first == 0) {
                first = number;
            } else {
                cycle = Orders.withTarget(cycle, last, number);
                cycle = Orders.withTarget(cycle, number, first);
            }
            last = number;
            return true;
        }

        private boolean goesOnBehindPart(int letter) {
            if (letter == '*') {
                awaited = PART;
                return true;
            }
            if (letter == ']' && brackets > 0) {
                int part = made[brackets];
                brackets--;
                open.size--;
                endPart(part);
                return true;
            }
            return false;
        }

        /** Each ~ that is open right before the PART ends with it. */
        private void endPart(int order) {
            int part = order;
            for (int i = open.size - 1; i >= 0 && open.sorts[i] == Troubles.TURNED; i--) {
                part = Orders.turned(part);
                open.size--;
            }
            made[brackets] = Orders.product(made[brackets], part);
            awaited = BEHIND_PART;
        }

        private static boolean isFigure(int letter) {
            return letter >= '1' && letter <= '5';
        }
    }
}

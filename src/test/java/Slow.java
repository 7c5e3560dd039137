import java.math.BigInteger;
import java.util.ArrayDeque;
import java.util.ArrayList;
import java.util.Arrays;
import java.util.Deque;
import java.util.HashMap;
import java.util.List;
import java.util.Map;
import java.util.TreeMap;

/**
 * The document once more, by its own words and by brute force: POLYTABLOIDS as sums over all ORDERS, STRAIGHT by
 * elimination, FRACTIONS by whole tables, characters by rim hooks, TEXTS by a tree. Tests compare the class with it.
 */
final class Slow {
    static final long VOID = Long.MIN_VALUE;

    private static final Map<List<Integer>, World> WORLDS = new HashMap<>();

    private World world;
    private final int[][] registers = new int[4][];
    private final Object[] shelves = new Object[4];
    private final Deque<int[][]> steps = new ArrayDeque<>();
    private final StringBuilder tape = new StringBuilder();
    private List<int[]> why = new ArrayList<>();
    private World imageWorld;
    private int[][] imageRegisters;
    private Object[] imageShelves;

    Slow() {
        become(World.of(List.of(2, 1)));
    }

    private void become(World w) {
        world = w;
        for (int r = 0; r < 4; r++) {
            registers[r] = w.identity();
        }
        steps.clear();
    }

    // ---- SHAPE

    long shape(int a, int b, int c, int d, int e) {
        int[] rows = {a, b, c, d, e};
        List<Integer> shape = new ArrayList<>();
        long sum = 0;
        for (int i = 0; i < 5; i++) {
            if (rows[i] < 0 || (i > 0 && rows[i] > rows[i - 1])) {
                return -1;
            }
            sum += rows[i];
            if (rows[i] > 0) {
                shape.add(rows[i]);
            }
        }
        if (sum < 1 || sum > 5) {
            return -1;
        }
        become(World.of(shape));
        for (int s = 0; s < 4; s++) {
            if (shelves[s] instanceof long[]) {
                shelves[s] = null;
            }
        }
        return world.standard.size();
    }

    long of(int what) {
        switch (what) {
            case 0: return world.n;
            case 1: return world.shape.size();
            case 2: return world.standard.size();
            case 3:
                long product = 1;
                for (int r = 0; r < world.shape.size(); r++) {
                    for (int c = 0; c < world.shape.get(r); c++) {
                        product *= cell(r, c, 0);
                    }
                }
                return product;
            case 4: return world.partitions.indexOf(world.shape);
            default: return -1;
        }
    }

    long cell(int row, int column, int what) {
        if (row < 0 || row >= world.shape.size() || column < 0 || column >= world.shape.get(row)) {
            return VOID;
        }
        if (what == 1) {
            return column - row;
        }
        if (what != 0) {
            return VOID;
        }
        long right = world.shape.get(row) - 1 - column;
        long below = world.shape.stream().skip(row + 1).filter(length -> length > column).count();
        return right + below + 1;
    }

    private boolean isK(int k) {
        return k >= 0 && k < world.standard.size();
    }

    long standard(int k, int i, int what) {
        if (!isK(k) || i < 1 || i > world.n || what < 0 || what > 1) {
            return -1;
        }
        int[] place = world.placeOf(world.standard.get(k), i);
        return place[what];
    }

    long which(int shelf) {
        if (refusal(shelf, int[].class) != 0) {
            return refusal(shelf, int[].class);
        }
        int[] row = (int[]) shelves[shelf];
        if (row.length < world.n) {
            return -13;
        }
        int[] filling = Arrays.copyOf(row, world.n);
        if (!world.isFilling(filling)) {
            return -5;
        }
        for (int k = 0; k < world.standard.size(); k++) {
            if (Arrays.equals(world.standard.get(k), filling)) {
                return k;
            }
        }
        return -2;
    }

    // ---- REGISTERS

    private static boolean isR(int r) {
        return r >= 0 && r < 4;
    }

    private long set(int r, int[] order) {
        if (!Arrays.equals(registers[r], order)) {
            steps.addLast(new int[][] {{r}, registers[r]});
            if (steps.size() > 10) {
                steps.removeFirst();
            }
            registers[r] = order;
        }
        return World.length(order);
    }

    long swap(int r, int k) {
        if (!isR(r) || k < 1 || k >= world.n) {
            return -1;
        }
        return set(r, World.product(registers[r], world.swapOf(k)));
    }

    long times(int r, int s, int t) {
        if (!isR(r) || !isR(s) || !isR(t)) {
            return -1;
        }
        return set(r, World.product(registers[s], registers[t]));
    }

    long turn(int r) {
        return isR(r) ? set(r, World.turned(registers[r])) : -1;
    }

    long takes(int r, int i) {
        return isR(r) && i >= 1 && i <= world.n ? registers[r][i - 1] + 1 : -1;
    }

    long told(int r, int what) {
        if (!isR(r) || what < 0 || what > 2) {
            return VOID;
        }
        int length = World.length(registers[r]);
        return what == 0 ? length : what == 1 ? 1 - 2 * (length % 2) : world.partitions.indexOf(World.type(registers[r]));
    }

    long word(int r, int i) {
        if (!isR(r) || i < 0) {
            return -1;
        }
        String word = world.words.get(Arrays.toString(registers[r]));
        return i < word.length() ? word.charAt(i) - '0' : -2;
    }

    long partition(int k, int i) {
        if (k == -1) {
            return world.partitions.size();
        }
        if (k < 0 || k >= world.partitions.size() || i < -1) {
            return -1;
        }
        List<Integer> parts = world.partitions.get(k);
        return i == -1 ? parts.size() : i < parts.size() ? parts.get(i) : -2;
    }

    // ---- AXES

    long straight(int shelf, int j) {
        if (which(shelf) < 0 && which(shelf) != -2 || !isK(j)) {
            return VOID;
        }
        return world.straight(Arrays.copyOf((int[]) shelves[shelf], world.n))[j];
    }

    long whole(int r, int k, int j) {
        return isR(r) && isK(k) && isK(j) ? world.whole(registers[r], k)[j] : VOID;
    }

    long fraction(int r, int k, int j, int part) {
        if (!isR(r) || !isK(k) || !isK(j) || part < 0 || part > 1) {
            return VOID;
        }
        return world.fractions(registers[r])[k][j].part(part);
    }

    long norm(int k, int part) {
        return isK(k) && (part == 0 || part == 1) ? world.norms[k].part(part) : VOID;
    }

    long character(int r) {
        return isR(r) ? World.rimHooks(world.shape, World.type(registers[r])) : VOID;
    }

    long characterOf(int k) {
        if (k < 0 || k >= world.partitions.size()) {
            return VOID;
        }
        return World.rimHooks(world.shape, world.partitions.get(k));
    }

    long branch(int row) {
        if (row < -1 || row >= world.shape.size()) {
            return -1;
        }
        if (row == -1) {
            long bits = 0;
            for (int r = 0; r < world.shape.size(); r++) {
                bits |= branch(r) == -2 ? 0 : 1L << r;
            }
            return bits;
        }
        List<Integer> less = new ArrayList<>(world.shape);
        less.set(row, less.get(row) - 1);
        if (row + 1 < less.size() && less.get(row) < less.get(row + 1)) {
            return -2;
        }
        less.remove((Integer) 0);
        return less.isEmpty() ? 1 : World.of(less).standard.size();
    }

    // ---- SHELVES

    private static boolean isS(int shelf) {
        return shelf >= 0 && shelf < 4;
    }

    /** 0, if a thing of this sort lies there: a ROW is an int[], a VECTOR a long[]. */
    private long refusal(int shelf, Class<?> sort) {
        if (!isS(shelf)) {
            return -1;
        }
        if (shelves[shelf] == null) {
            return -11;
        }
        return sort.isInstance(shelves[shelf]) ? 0 : -12;
    }

    long vector(int shelf, int k) {
        if (!isS(shelf) || !isK(k)) {
            return -1;
        }
        long[] made = new long[world.standard.size()];
        made[k] = 1;
        shelves[shelf] = made;
        return made.length;
    }

    long give(int shelf, int k, int v) {
        long was = has(shelf, k);
        if (was == VOID || v > 999 || v < -999) {
            return VOID;
        }
        ((long[]) shelves[shelf])[k] = v;
        return was;
    }

    long has(int shelf, int k) {
        return isS(shelf) && isK(k) && shelves[shelf] instanceof long[] numbers ? numbers[k] : VOID;
    }

    long acts(int shelf, int r) {
        if (!isS(shelf) || !isR(r)) {
            return -1;
        }
        if (refusal(shelf, long[].class) != 0) {
            return refusal(shelf, long[].class);
        }
        long[] numbers = (long[]) shelves[shelf];
        long[] made = new long[numbers.length];
        for (int k = 0; k < made.length; k++) {
            for (int j = 0; j < made.length; j++) {
                made[j] += numbers[k] * world.whole(registers[r], k)[j];
            }
        }
        for (long number : made) {
            if (number > 999 || number < -999) {
                return -5;
            }
        }
        shelves[shelf] = made;
        return 1;
    }

    long inner(int one, int other, int part) {
        if (!isS(one) || !isS(other) || part < 0 || part > 1) {
            return VOID;
        }
        if (!(shelves[one] instanceof long[] left) || !(shelves[other] instanceof long[] right)) {
            return VOID;
        }
        Ratio sum = Ratio.of(0);
        for (int k = 0; k < left.length; k++) {
            sum = sum.plus(world.norms[k].times(Ratio.of(left[k])).times(Ratio.of(right[k])));
        }
        return sum.part(part);
    }

    long row(int shelf, int n) {
        if (!isS(shelf) || n > 20) {
            return -1;
        }
        if (n < -1) {
            return -14;
        }
        shelves[shelf] = n == -1 ? null : new int[n];
        return 1;
    }

    long put(int shelf, int i, int v) {
        if (refusal(shelf, int[].class) != 0) {
            return refusal(shelf, int[].class);
        }
        int[] row = (int[]) shelves[shelf];
        if (i < 0 || i >= row.length) {
            return -13;
        }
        row[i] = v;
        return 1;
    }

    long get(int shelf, int i) {
        return isS(shelf) && shelves[shelf] instanceof int[] row && i >= 0 && i < row.length ? row[i] : VOID;
    }

    long film(int shelf, int k) {
        if (!isS(shelf) || !isK(k)) {
            return -1;
        }
        shelves[shelf] = world.standard.get(k).clone();
        return world.n;
    }

    long judge(int shelf) {
        if (refusal(shelf, int[].class) != 0) {
            return refusal(shelf, int[].class);
        }
        int[] row = (int[]) shelves[shelf];
        int[] order = world.identity();
        for (int i = 0; i < row.length; i++) {
            if (row[i] < 1 || row[i] >= world.n) {
                return i;
            }
            order = World.product(order, world.swapOf(row[i]));
            if (World.length(order) != i + 1) {
                return i;
            }
        }
        return -2;
    }

    // ---- STEPS, THE TAPE, WHY, THE IMAGE

    long back() {
        if (steps.isEmpty()) {
            return -5;
        }
        int[][] step = steps.removeLast();
        registers[step[0][0]] = step[1];
        return steps.size();
    }

    long feed(int letter) {
        if (letter < 32 || letter > 126) {
            return -1;
        }
        if (tape.length() == 80) {
            return -3;
        }
        tape.append((char) letter);
        return tape.length();
    }

    long wipe() {
        int had = tape.length();
        tape.setLength(0);
        return had;
    }

    long read(int r) {
        if (!isR(r)) {
            return -1;
        }
        SlowText text = new SlowText(tape.toString());
        tape.setLength(0);
        try {
            return set(r, text.parse().order(world));
        } catch (SlowText.Refused refused) {
            why = refused.troubles;
            int[] last = why.get(why.size() - 1);
            return last[0] == 1 ? -100 - last[1] : -2;
        }
    }

    long why(int i, int what) {
        if (i < 0 || what < 0 || what > 1) {
            return -1;
        }
        return i < why.size() ? why.get(i)[what] : -2;
    }

    private static Object[] copied(Object[] from) {
        Object[] made = from.clone();
        for (int i = 0; i < made.length; i++) {
            made[i] = made[i] instanceof int[] row ? row.clone() : made[i] instanceof long[] vector ? vector.clone() : null;
        }
        return made;
    }

    long image() {
        imageWorld = world;
        imageRegisters = registers.clone();
        imageShelves = copied(shelves);
        return world.n;
    }

    long restore() {
        if (imageWorld == null) {
            return -5;
        }
        become(imageWorld);
        System.arraycopy(imageRegisters, 0, registers, 0, 4);
        System.arraycopy(copied(imageShelves), 0, shelves, 0, 4);
        return world.n;
    }

    long count(int what) {
        switch (what) {
            case 0: return steps.size();
            case 1: return tape.length();
            case 2: return why.size();
            case 3: return Arrays.stream(shelves).filter(lying -> lying != null).count();
            case 4: return Arrays.stream(registers).mapToInt(World::length).sum();
            default: return -1;
        }
    }

    /** A fraction in lowest terms. */
    record Ratio(BigInteger above, BigInteger below) {
        static Ratio of(long whole) {
            return new Ratio(BigInteger.valueOf(whole), BigInteger.ONE);
        }

        static Ratio of(BigInteger above, BigInteger below) {
            BigInteger common = above.gcd(below).multiply(BigInteger.valueOf(below.signum()));
            return new Ratio(above.divide(common), below.divide(common));
        }

        Ratio plus(Ratio o) {
            return of(above.multiply(o.below).add(o.above.multiply(below)), below.multiply(o.below));
        }

        Ratio minus(Ratio o) {
            return plus(o.times(of(-1)));
        }

        Ratio times(Ratio o) {
            return of(above.multiply(o.above), below.multiply(o.below));
        }

        Ratio over(Ratio o) {
            return of(above.multiply(o.below), below.multiply(o.above));
        }

        boolean isZero() {
            return above.signum() == 0;
        }

        long part(int part) {
            return (part == 0 ? above : below).longValueExact();
        }
    }

    /** All that a SHAPE tells. ORDERS are arrays from 0 on here; FILLINGS are arrays of numbers from 1 on, cell by cell. */
    static final class World {
        final List<Integer> shape;
        final int n;
        final List<int[]> orders = new ArrayList<>();
        final List<int[]> standard = new ArrayList<>();
        final List<List<Integer>> partitions = new ArrayList<>();
        final Map<String, String> words = new HashMap<>();
        final Ratio[] norms;
        private final List<Map<String, Integer>> polytabloids = new ArrayList<>();
        private final Map<String, long[]> straights = new HashMap<>();
        private final Map<String, Ratio[][]> fractions = new HashMap<>();

        static World of(List<Integer> shape) {
            World there = WORLDS.get(shape);
            if (there == null) {
                there = new World(List.copyOf(shape));
                WORLDS.put(there.shape, there);
            }
            return there;
        }

        private World(List<Integer> shape) {
            this.shape = shape;
            n = shape.stream().mapToInt(Integer::intValue).sum();
            allOrders(new ArrayList<>());
            allPartitions(n, n, new ArrayList<>());
            findStandard();
            findWords();
            for (int[] filling : standard) {
                polytabloids.add(polytabloid(filling));
            }
            norms = findNorms();
        }

        int[] identity() {
            int[] made = new int[n];
            for (int i = 0; i < n; i++) {
                made[i] = i;
            }
            return made;
        }

        int[] swapOf(int k) {
            int[] made = identity();
            made[k - 1] = k;
            made[k] = k - 1;
            return made;
        }

        static int[] product(int[] p, int[] q) {
            int[] made = new int[p.length];
            for (int i = 0; i < p.length; i++) {
                made[i] = p[q[i]];
            }
            return made;
        }

        static int[] turned(int[] p) {
            int[] made = new int[p.length];
            for (int i = 0; i < p.length; i++) {
                made[p[i]] = i;
            }
            return made;
        }

        static int length(int[] p) {
            int twos = 0;
            for (int i = 0; i < p.length; i++) {
                for (int j = i + 1; j < p.length; j++) {
                    twos += p[i] > p[j] ? 1 : 0;
                }
            }
            return twos;
        }

        static List<Integer> type(int[] p) {
            boolean[] seen = new boolean[p.length];
            List<Integer> sizes = new ArrayList<>();
            for (int i = 0; i < p.length; i++) {
                int size = 0;
                for (int at = i; !seen[at]; at = p[at]) {
                    seen[at] = true;
                    size++;
                }
                if (size > 0) {
                    sizes.add(size);
                }
            }
            sizes.sort((a, b) -> b - a);
            return sizes;
        }

        private void allOrders(List<Integer> begun) {
            if (begun.size() == n) {
                orders.add(begun.stream().mapToInt(Integer::intValue).toArray());
                return;
            }
            for (int i = 0; i < n; i++) {
                if (!begun.contains(i)) {
                    List<Integer> more = new ArrayList<>(begun);
                    more.add(i);
                    allOrders(more);
                }
            }
        }

        private void allPartitions(int left, int most, List<Integer> begun) {
            if (left == 0) {
                partitions.add(begun);
                return;
            }
            for (int part = Math.min(left, most); part >= 1; part--) {
                List<Integer> more = new ArrayList<>(begun);
                more.add(part);
                allPartitions(left - part, part, more);
            }
        }

        /** Row and column of cell c, cells being counted row by row. */
        private int[] placeOfCell(int c) {
            int row = 0;
            int column = c;
            while (column >= shape.get(row)) {
                column -= shape.get(row);
                row++;
            }
            return new int[] {row, column};
        }

        int[] placeOf(int[] filling, int number) {
            for (int c = 0; c < n; c++) {
                if (filling[c] == number) {
                    return placeOfCell(c);
                }
            }
            throw new IllegalStateException();
        }

        boolean isFilling(int[] filling) {
            int[] sorted = filling.clone();
            Arrays.sort(sorted);
            for (int i = 0; i < n; i++) {
                if (sorted[i] != i + 1) {
                    return false;
                }
            }
            return true;
        }

        private void findStandard() {
            TreeMap<String, int[]> byRows = new TreeMap<>();
            for (int[] order : orders) {
                int[] filling = taken(order, null);
                boolean rises = true;
                StringBuilder rows = new StringBuilder();
                for (int a = 0; a < n; a++) {
                    rows.append(placeOf(filling, a + 1)[0]);
                    for (int b = 0; b < n; b++) {
                        int[] one = placeOfCell(a);
                        int[] other = placeOfCell(b);
                        boolean right = one[0] == other[0] && one[1] < other[1];
                        boolean below = one[1] == other[1] && one[0] < other[0];
                        rises &= !(right || below) || filling[a] < filling[b];
                    }
                }
                if (rises) {
                    byRows.put(rows.toString(), filling);
                }
            }
            standard.addAll(byRows.values());
        }

        /** A FILLING (1, 2, .. cell by cell, if null) with each number taken by an ORDER. */
        private int[] taken(int[] order, int[] filling) {
            int[] made = new int[n];
            for (int c = 0; c < n; c++) {
                made[c] = order[(filling == null ? c + 1 : filling[c]) - 1] + 1;
            }
            return made;
        }

        /** By length; of words as long as another the first by numbers wins. */
        private void findWords() {
            List<int[]> now = List.of(identity());
            words.put(Arrays.toString(identity()), "");
            while (!now.isEmpty()) {
                TreeMap<String, int[]> next = new TreeMap<>();
                for (int[] p : now) {
                    for (int k = 1; k < n; k++) {
                        int[] more = product(p, swapOf(k));
                        if (length(more) > length(p)) {
                            next.put(words.get(Arrays.toString(p)) + k, more);
                        }
                    }
                }
                now = new ArrayList<>();
                for (Map.Entry<String, int[]> entry : next.entrySet()) {
                    if (words.putIfAbsent(Arrays.toString(entry.getValue()), entry.getKey()) == null) {
                        now.add(entry.getValue());
                    }
                }
            }
        }

        private Map<String, Integer> polytabloid(int[] filling) {
            Map<String, Integer> sum = new TreeMap<>();
            for (int[] order : orders) {
                boolean within = true;
                for (int i = 1; i <= n; i++) {
                    within &= placeOf(filling, i)[1] == placeOf(filling, order[i - 1] + 1)[1];
                }
                if (within) {
                    int[] made = taken(order, filling);
                    StringBuilder tabloid = new StringBuilder();
                    for (int i = 1; i <= n; i++) {
                        tabloid.append(placeOf(made, i)[0]);
                    }
                    sum.merge(tabloid.toString(), length(order) % 2 == 0 ? 1 : -1, Integer::sum);
                }
            }
            return sum;
        }

        long[] straight(int[] filling) {
            return straights.computeIfAbsent(Arrays.toString(filling), key -> solve(polytabloid(filling)));
        }

        /** Elimination over all TABLOIDS: one equation each, an unknown for each STANDARD one. */
        private long[] solve(Map<String, Integer> wanted) {
            int d = standard.size();
            Map<String, Integer> all = new TreeMap<>(wanted);
            polytabloids.forEach(all::putAll);
            List<Ratio[]> left = new ArrayList<>();
            for (String tabloid : all.keySet()) {
                Ratio[] equation = new Ratio[d + 1];
                for (int k = 0; k < d; k++) {
                    equation[k] = Ratio.of(polytabloids.get(k).getOrDefault(tabloid, 0));
                }
                equation[d] = Ratio.of(wanted.getOrDefault(tabloid, 0));
                left.add(equation);
            }
            List<Ratio[]> solved = new ArrayList<>();
            for (int k = 0; k < d; k++) {
                int unknown = k;
                Ratio[] pivot = left.stream().filter(row -> !row[unknown].isZero()).findFirst().orElseThrow();
                left.remove(pivot);
                Ratio by = pivot[k];
                for (int i = 0; i <= d; i++) {
                    pivot[i] = pivot[i].over(by);
                }
                List<Ratio[]> others = new ArrayList<>(left);
                others.addAll(solved);
                for (Ratio[] row : others) {
                    Ratio times = row[k];
                    for (int i = 0; i <= d; i++) {
                        row[i] = row[i].minus(times.times(pivot[i]));
                    }
                }
                solved.add(pivot);
            }
            if (left.stream().anyMatch(row -> !row[d].isZero())) {
                throw new IllegalStateException("no such way");
            }
            return solved.stream().mapToLong(row -> {
                if (!row[d].below().equals(BigInteger.ONE)) {
                    throw new IllegalStateException("no whole number");
                }
                return row[d].part(0);
            }).toArray();
        }

        long[] whole(int[] order, int k) {
            return straight(taken(order, standard.get(k)));
        }

        private Ratio distance(int k, int s) {
            int[] next = placeOf(standard.get(k), s + 1);
            int[] here = placeOf(standard.get(k), s);
            return Ratio.of((next[1] - next[0]) - (here[1] - here[0]));
        }

        private boolean areChanged(int k, int j, int s) {
            return Arrays.equals(taken(swapOf(s), standard.get(k)), standard.get(j));
        }

        private Ratio lessSquare(Ratio x) {
            return Ratio.of(1).minus(Ratio.of(1).over(x.times(x)));
        }

        Ratio[][] fractions(int[] order) {
            return fractions.computeIfAbsent(Arrays.toString(order), key -> {
                Ratio[][] made = table((k, j) -> Ratio.of(k == j ? 1 : 0));
                for (char s : words.get(key).toCharArray()) {
                    Ratio[][] before = made;
                    Ratio[][] by = ofSwap(s - '0');
                    made = table((k, j) -> {
                        Ratio sum = Ratio.of(0);
                        for (int m = 0; m < standard.size(); m++) {
                            sum = sum.plus(by[k][m].times(before[m][j]));
                        }
                        return sum;
                    });
                }
                return made;
            });
        }

        private Ratio[][] ofSwap(int s) {
            return table((k, j) -> {
                if (k == j) {
                    return Ratio.of(1).over(distance(k, s));
                }
                if (!areChanged(k, j, s)) {
                    return Ratio.of(0);
                }
                return k < j ? Ratio.of(1) : lessSquare(distance(k, s));
            });
        }

        private interface Entry {
            Ratio at(int k, int j);
        }

        private Ratio[][] table(Entry entry) {
            int d = standard.size();
            Ratio[][] made = new Ratio[d][d];
            for (int k = 0; k < d; k++) {
                for (int j = 0; j < d; j++) {
                    made[k][j] = entry.at(k, j);
                }
            }
            return made;
        }

        /** By all ways, which must agree. */
        private Ratio[] findNorms() {
            int d = standard.size();
            Ratio[] made = new Ratio[d];
            made[0] = Ratio.of(1);
            for (int j = 1; j < d; j++) {
                for (int k = 0; k < j; k++) {
                    for (int s = 1; s < n; s++) {
                        if (areChanged(k, j, s)) {
                            Ratio norm = made[k].times(lessSquare(distance(k, s)));
                            if (made[j] != null && !made[j].equals(norm)) {
                                throw new IllegalStateException("two norms");
                            }
                            made[j] = norm;
                        }
                    }
                }
            }
            return made;
        }

        /** Murnaghan and Nakayama, on the beta numbers of the shape. */
        static long rimHooks(List<Integer> shape, List<Integer> type) {
            List<Integer> betas = new ArrayList<>();
            for (int r = 0; r < shape.size(); r++) {
                betas.add(shape.get(r) + shape.size() - 1 - r);
            }
            return rimHooksOf(betas, type);
        }

        private static long rimHooksOf(List<Integer> betas, List<Integer> type) {
            if (type.isEmpty()) {
                return 1;
            }
            int hook = type.get(0);
            long sum = 0;
            for (int b : betas) {
                if (b >= hook && !betas.contains(b - hook)) {
                    long passed = betas.stream().filter(other -> other > b - hook && other < b).count();
                    List<Integer> less = new ArrayList<>(betas);
                    less.remove((Integer) b);
                    less.add(b - hook);
                    sum += (passed % 2 == 0 ? 1 : -1) * rimHooksOf(less, type.subList(1, type.size()));
                }
            }
            return sum;
        }
    }
}

import java.util.Arrays;
import java.util.List;

/** Every SHAPE, every ORDER of its numbers, every STANDARD one and FILLING, against Slow. */
public final class EveryShapeTest {
    private static final Due due = new Due("EveryShapeTest");
    private static SwapTables x;
    private static Slow slow;

    public static void main(String[] args) {
        for (int n = 1; n <= 5; n++) {
            for (List<Integer> shape : Slow.World.of(List.of(n)).partitions) {
                everyCall(shape);
            }
        }
        due.end();
    }

    private static void everyCall(List<Integer> shape) {
        cells(shape);
        partitions(shape);
        standardOnes(shape);
        for (int[] order : Slow.World.of(shape).orders) {
            order(shape, order);
            filling(shape, order);
        }
    }

    /** New objects each time, for one is used for at most 512 calls. */
    private static void begin(List<Integer> shape) {
        x = new SwapTables();
        slow = new Slow();
        due.is("shape" + shape, x.shape(at(shape, 0), at(shape, 1), at(shape, 2), at(shape, 3), at(shape, 4)),
            slow.shape(at(shape, 0), at(shape, 1), at(shape, 2), at(shape, 3), at(shape, 4)));
    }

    private static void cells(List<Integer> shape) {
        begin(shape);
        for (int what = -1; what <= 5; what++) {
            due.is(shape + " of " + what, x.of(what), slow.of(what));
        }
        for (int a = -2; a <= 8; a++) {
            due.is(shape + " branch " + a, x.branch(a), slow.branch(a));
            for (int b = -2; b <= 6; b++) {
                for (int what = -1; what <= 2; what++) {
                    due.is(shape + " cell " + a + " " + b, x.cell(a, b, what), slow.cell(a, b, what));
                }
            }
        }
    }

    private static void partitions(List<Integer> shape) {
        begin(shape);
        for (int a = -2; a <= 8; a++) {
            due.is(shape + " characterOf " + a, x.characterOf(a), slow.characterOf(a));
            for (int b = -2; b <= 6; b++) {
                due.is(shape + " partition " + a + " " + b, x.partition(a, b), slow.partition(a, b));
            }
        }
    }

    private static void standardOnes(List<Integer> shape) {
        begin(shape);
        for (int k = -1; k <= 6; k++) {
            for (int i = -1; i <= 6; i++) {
                for (int what = -1; what <= 2; what++) {
                    due.is(shape + " standard " + k + " " + i, x.standard(k, i, what), slow.standard(k, i, what));
                }
            }
            for (int part = -1; part <= 2; part++) {
                due.is(shape + " norm " + k + " " + part, x.norm(k, part), slow.norm(k, part));
            }
            due.is(shape + " film " + k, x.film(0, k), slow.film(0, k));
            due.is(shape + " which", x.which(0), slow.which(0));
        }
    }

    private static void order(List<Integer> shape, int[] order) {
        begin(shape);
        String name = shape + Arrays.toString(order);
        for (char s : Slow.World.of(shape).words.get(Arrays.toString(order)).toCharArray()) {
            due.is(name + " swap " + s, x.swap(1, s - '0'), slow.swap(1, s - '0'));
        }
        for (int i = 0; i <= 6; i++) {
            due.is(name + " takes " + i, x.takes(1, i), slow.takes(1, i));
            due.is(name + " told " + i, x.told(1, i), slow.told(1, i));
        }
        for (int i = -1; i <= 11; i++) {
            due.is(name + " word " + i, x.word(1, i), slow.word(1, i));
        }
        due.is(name + " character", x.character(1), slow.character(1));
        for (int k = -1; k <= 6; k++) {
            for (int j = -1; j <= 6; j++) {
                due.is(name + " whole " + k + " " + j, x.whole(1, k, j), slow.whole(1, k, j));
                for (int part = -1; part <= 2; part++) {
                    due.is(name + " fraction " + k + " " + j + " " + part,
                        x.fraction(1, k, j, part), slow.fraction(1, k, j, part));
                }
            }
        }
    }

    private static void filling(List<Integer> shape, int[] order) {
        begin(shape);
        String name = shape + " filling " + Arrays.toString(order);
        x.row(2, order.length);
        slow.row(2, order.length);
        for (int i = 0; i < order.length; i++) {
            x.put(2, i, order[i] + 1);
            slow.put(2, i, order[i] + 1);
        }
        due.is(name + " which", x.which(2), slow.which(2));
        for (int j = -1; j <= 6; j++) {
            due.is(name + " straight " + j, x.straight(2, j), slow.straight(2, j));
        }
    }

    private static int at(List<Integer> shape, int i) {
        return i < shape.size() ? shape.get(i) : 0;
    }
}

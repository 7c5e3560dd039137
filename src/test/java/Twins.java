import java.util.function.Supplier;
import java.util.function.ToLongFunction;

/** Objects led alike, of which one is refused a call: nothing may tell them apart behind it. */
final class Twins {
    private final Due due;

    Twins(Due due) {
        this.due = due;
    }

    void refuses(String call, Supplier<SwapTables> led, ToLongFunction<SwapTables> refused, long answer) {
        SwapTables x = led.get();
        due.is(call, refused.applyAsLong(x), answer);
        due.same(call + ": what is seen then", Look.through(x), Look.through(led.get()));
    }

    /** An object with ten STEPS, an IMAGE of another SHAPE, WHY, a TAPE: a change would be seen. */
    static SwapTables busy(int... shape) {
        SwapTables x = new SwapTables();
        x.swap(1, 2);
        Lead.vector(x, 2, 44, -44);
        Lead.row(x, 3, 8, 9);
        x.image();
        Lead.read(x, 0, "~[s5]");
        Lead.toShape(x, shape);
        for (int i = 0; i < 11; i++) {
            x.swap(i % 3, 1 + i % Math.max(1, x.of(0) - 1));
        }
        Lead.feed(x, x.of(0) > 1 ? "~[s1]" : "~[e]");
        return x;
    }

    static SwapTables withVectors(int... shape) {
        SwapTables x = busy(shape);
        for (int shelf = 0; shelf < 4; shelf++) {
            x.vector(shelf, 0);
            x.give(shelf, x.of(2) - 1, 7 * shelf - 9);
        }
        return x;
    }

    /** Each ROW tells the last STANDARD one. */
    static SwapTables withRows(int... shape) {
        SwapTables x = busy(shape);
        for (int shelf = 0; shelf < 4; shelf++) {
            x.film(shelf, x.of(2) - 1);
        }
        return x;
    }

    /** Of SHAPE 2, 1: a VECTOR, a ROW that tells a FILLING, a ROW of 2, nothing. */
    static SwapTables mixed() {
        SwapTables x = busy(2, 1);
        Lead.vector(x, 0, 500, -7);
        Lead.row(x, 1, 1, 3, 2, 5);
        Lead.row(x, 2, 1, 2);
        x.row(3, -1);
        return x;
    }
}

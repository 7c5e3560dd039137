import com.sun.management.ThreadMXBean;
import java.lang.management.ManagementFactory;

/** All calls of a run live in one room: the constructor may make some thousand bytes, the calls none. */
public final class RoomTest {
    private static final ThreadMXBean threads = (ThreadMXBean) ManagementFactory.getThreadMXBean();

    public static void main(String[] args) {
        Due due = new Due("RoomTest");
        everyCall(new SwapTables());
        long before = threads.getCurrentThreadAllocatedBytes();
        SwapTables x = new SwapTables();
        long made = threads.getCurrentThreadAllocatedBytes();
        for (int i = 0; i < 8; i++) {
            everyCall(x);
        }
        long after = threads.getCurrentThreadAllocatedBytes();
        due.holds("an object is small: " + (made - before), made - before < 10000);
        due.holds("calls make nothing: " + (after - made), after - made < 1000);
        due.end();
    }

    private static void everyCall(SwapTables x) {
        x.shape(3, 1, 1, 0, 0);
        for (int k = 1; k <= 4; k++) {
            x.swap(0, k);
            x.times(1, 0, 0);
            x.turn(1);
            x.back();
        }
        x.of(3);
        x.cell(0, 0, 0);
        x.standard(1, 2, 0);
        x.takes(0, 1);
        x.told(0, 2);
        x.word(0, 3);
        x.partition(3, 1);
        x.film(1, 2);
        x.which(1);
        x.straight(1, 2);
        x.judge(1);
        x.row(2, 20);
        x.put(2, 3, 4);
        x.get(2, 3);
        x.whole(0, 1, 2);
        x.fraction(0, 1, 2, 0);
        x.norm(3, 1);
        x.character(0);
        x.characterOf(2);
        x.branch(-1);
        x.vector(0, 1);
        x.give(0, 2, 5);
        x.has(0, 2);
        x.acts(0, 0);
        x.inner(0, 0, 0);
        x.image();
        x.restore();
        x.feed('[');
        x.wipe();
        x.feed('~');
        x.read(0);
        x.why(0, 0);
        x.count(4);
    }
}

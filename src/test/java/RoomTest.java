import com.sun.management.ThreadMXBean;
import java.lang.management.ManagementFactory;

/** No call makes an object, and a new object is small: all calls of a run live in one room. */
public final class RoomTest {
    private static final long BYTES_OF_A_NEW_ONE = 40_000;
    private static final long BYTES_OF_CALLS = 1_000;
    private static final Due DUE = new Due("RoomTest");

    public static void main(String[] args) {
        if (!(ManagementFactory.getThreadMXBean() instanceof ThreadMXBean room)
            || !room.isThreadAllocatedMemorySupported()) {
            System.out.println("RoomTest: this Java machine does not count what is made");
            return;
        }
        room.setThreadAllocatedMemoryEnabled(true);
        // The first time round, classes are loaded and what is measured is warmed up.
        measure(room);
        SmallSpaces x = new SmallSpaces();
        long start = room.getCurrentThreadAllocatedBytes();
        x = new SmallSpaces();
        long made = room.getCurrentThreadAllocatedBytes() - start;
        DUE.holds("a new object takes " + made + " bytes", made < BYTES_OF_A_NEW_ONE);
        long calls = measure(room);
        DUE.holds("calls make " + calls + " bytes", calls < BYTES_OF_CALLS);
        DUE.is("a new object's q", x.told(0), 2);
        DUE.end();
    }

    private static long measure(ThreadMXBean room) {
        SmallSpaces two = new SmallSpaces();
        SmallSpaces three = new SmallSpaces();
        SmallSpaces five = new SmallSpaces();
        long idle = room.getCurrentThreadAllocatedBytes();
        idle = room.getCurrentThreadAllocatedBytes() - idle;
        long start = room.getCurrentThreadAllocatedBytes();
        everyCall(two, 2, 6, 3);
        everyCall(three, 3, 5, 2);
        everyCall(five, 5, 4, 2);
        return room.getCurrentThreadAllocatedBytes() - start - idle;
    }

    private static long everyCall(SmallSpaces x, int q, int n, int k) {
        long sum = x.field(q, n) + x.plus(1, 2, 1) + x.times(1, 2) + x.add(0, 5) + x.add(0, q + 1) + x.add(1, q * q);
        sum += x.dim(0) + x.row(0, 0) + x.join(0, 1, 2) + x.meet(0, 1, 3) + x.dual(0, 4) + x.has(0, 1);
        sum += x.within(0, 2) + x.apart(0, 1) + x.number(0) + x.numbered(5, k, 77) + x.many(k) + x.over(0, k);
        sum += x.meeting(0, k, 1) + x.clear(1) + x.put(0) + x.put(5) + x.take(6, 0) + x.empty();
        for (int d = 1; d <= 10; d++) {
            sum += x.greedy(k, d) + x.least() + x.bare();
        }
        sum += x.image(0, 1) + x.mapped(3) + x.map(0, 7) + x.kernel(8) + x.image(n - 1, 0);
        for (int i = 0; i <= 60; i++) {
            sum += x.round(i % 12);
        }
        return sum + x.told(5) + x.digest() + x.field(9, 9) + x.told(9) + x.dim(12) + x.greedy(k, 1);
    }
}

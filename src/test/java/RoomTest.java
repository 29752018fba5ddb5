import com.sun.management.ThreadMXBean;
import java.lang.management.ManagementFactory;

/**
 * All calls of a run live in one room: so no call may make an object, be it answered or refused, and a
 * new bench must be small.
 */
public final class RoomTest {
    private static final int MOST_BYTES_OF_ONE = 32768;
    /** What the measuring itself may take. */
    private static final int MOST_BYTES_OF_CALLS = 2048;

    public static void main(String[] args) {
        ThreadMXBean threads = (ThreadMXBean) ManagementFactory.getThreadMXBean();
        long self = Thread.currentThread().getId();
        int sum = callAll(new KeptColours());
        long start = threads.getThreadAllocatedBytes(self);
        KeptColours x = new KeptColours();
        long made = threads.getThreadAllocatedBytes(self);
        sum += callAll(x);
        long called = threads.getThreadAllocatedBytes(self);
        boolean fits = made - start <= MOST_BYTES_OF_ONE && called - made <= MOST_BYTES_OF_CALLS;
        System.out.println("a bench takes " + (made - start) + " bytes, its calls " + (called - made) + " (sum " + sum + ")");
        if (!fits) {
            System.exit(1);
        }
    }

    private static int callAll(KeptColours x) {
        int sum = 0;
        for (int colours = 2; colours <= 3; colours++) {
            for (int kind = 0; kind <= 5; kind++) {
                int size = kind == 0 ? 0 : 3;
                sum += x.net(4 + kind, colours) + x.target(0, kind, size) + x.target(1, 1, 3) + x.target(2, 5, 4);
                sum += x.paint(0, 1, 1) + x.colour(0, 1) + x.aim(0, 0) + x.isOf(0, 6);
                sum += x.clear() + x.copies(0) + x.copy(0, 0) + x.degree(0, 1) + x.triangles() + x.least(5);
                sum += x.prove() + x.row(0, 2) + x.forge(0, 7) + x.check();
                sum += x.fill(20000) + x.tries() + x.puts() + x.put(0) + x.drop();
                sum += x.turned(1) + x.turns(2) + x.step(30) + x.undo() + x.count(3);
                sum += x.list(5, 0) + x.list(5, 1) + x.listed(4, 3) + x.form(2) + x.same();
                sum += x.net(-1, 9) + x.listed(12, 0) + x.listed(4, Integer.MAX_VALUE) + x.fill(0) + x.row(-1, -1);
            }
        }
        return sum;
    }
}

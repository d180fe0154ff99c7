import com.sun.management.ThreadMXBean;
import java.lang.management.ManagementFactory;

/** All calls of a run share one room: rows are made in the constructor, and no call makes more. */
public final class RoomTest {
    private static final long BYTES_OF_AN_OBJECT = 200_000;
    /** For what the machine itself may make in this thread; far below one row a call. */
    private static final long BYTES_OF_ALL_CALLS = 50_000;

    private RoomTest() {
    }

    public static void main(String[] args) {
        run(new BlockWorkshop());
        long start = made();
        BlockWorkshop x = new BlockWorkshop();
        long object = made() - start;
        run(x);
        long calls = made() - start - object;
        Check.same("bytes of an object, " + object, "true", String.valueOf(object < BYTES_OF_AN_OBJECT));
        Check.same("bytes of all calls, " + calls, "true", String.valueOf(calls < BYTES_OF_ALL_CALLS));
        Check.end();
    }

    private static long made() {
        ThreadMXBean threads = (ThreadMXBean) ManagementFactory.getThreadMXBean();
        return threads.getThreadAllocatedBytes(Thread.currentThread().getId());
    }

    private static void run(BlockWorkshop x) {
        for (int p = 0; p < 6; p++) {
            for (int cell = 0; cell < 4; cell++) {
                x.cube(p, cell, true);
            }
            x.cube(p, 20, true);
            x.mirror(p, p % 2 == 0);
        }
        for (int cell = 0; cell < 64; cell++) {
            x.target(cell, 2);
        }
        for (int i = 0; i < 50; i++) {
            x.target(i, 1);
            x.shapes(i % 6);
            x.places(i % 6);
            x.pack(500);
            x.assemble(i, 5000);
            x.cells(i % 6);
            if (x.cells(0) != 0) {
                x.plan(63, 300);
            }
        }
    }
}

import java.lang.management.ManagementFactory;

/** A run stays far inside its room: the constructor makes what is needed, no call makes anything. */
public final class RoomTest {
    private static final com.sun.management.ThreadMXBean THREADS = (com.sun.management.ThreadMXBean) ManagementFactory.getThreadMXBean();
    private static final Checks C = new Checks();

    private RoomTest() {
    }

    public static void main(String[] args) {
        // the machine's own first-time work is done ahead of the measured run
        run(new BitBranches());
        made();
        long ahead = made();
        BitBranches x = new BitBranches();
        long byNew = made() - ahead;
        ahead = made();
        run(x);
        long byCalls = made() - ahead;
        C.holds("a new object takes less than 20,000 bytes, not " + byNew, byNew < 20_000);
        C.holds("512 calls make nothing, not " + byCalls + " bytes", byCalls < 2_000);
        C.end();
    }

    private static long made() {
        return THREADS.getThreadAllocatedBytes(Thread.currentThread().getId());
    }

    private static void run(BitBranches x) {
        for (int i = 0; i < 512; i++) {
            Calls.of(x, i % 24, i % 20, i % 13);
        }
    }
}

import java.lang.management.ManagementFactory;

/** The room of a run: the rows are made with the object, and the calls make nothing more. */
public final class RoomTest {
    private static final int CALLS = 512;
    // The measuring itself may make a little; one object a call would be 8192 bytes at least.
    private static final long MOST_BYTES_OF_CALLS = 4096;
    private static final long MOST_BYTES_OF_AN_OBJECT = 64 * 1024;

    public static void main(String[] args) {
        dearCalls(new RulerWorkbench());
        allocated();
        long start = allocated();
        RulerWorkbench x = new RulerWorkbench();
        long made = allocated();
        dearCalls(x);
        long after = allocated();
        Check.yes("bytes of an object: " + (made - start), made - start < MOST_BYTES_OF_AN_OBJECT);
        Check.yes("bytes that the calls make: " + (after - made), after - made < MOST_BYTES_OF_CALLS);
        Check.end("RoomTest");
    }

    private static long allocated() {
        return ((com.sun.management.ThreadMXBean) ManagementFactory.getThreadMXBean()).getCurrentThreadAllocatedBytes();
    }

    private static void dearCalls(RulerWorkbench x) {
        x.extend(0, 24);
        x.erdosTuran(23, 1);
        x.setModulus(997);
        for (int i = 4; i < CALLS; i += 8) {
            x.canonical(0, 2);
            x.multipliers(0);
            x.digest();
            x.optimal(7, 3);
            x.sparse(20, 3);
            x.firstDifferenceSet(16, 6, 3);
            x.map(0, 996, 1, 3);
            x.undo();
        }
    }
}

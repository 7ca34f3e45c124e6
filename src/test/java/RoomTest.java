import java.lang.management.ManagementFactory;

/** All calls of a run live in one room: what an object and its 512 dearest calls make is counted, in bytes. */
public final class RoomTest {
    // far below 7.3 million fields and elements of four bytes
    private static final long MOST_BYTES = 300_000;

    public static void main(String[] args) {
        com.sun.management.ThreadMXBean counter = (com.sun.management.ThreadMXBean) ManagementFactory.getThreadMXBean();
        long self = Thread.currentThread().getId();
        int[] sums = new int[4];
        dearRun(0);
        int failed = 0;
        for (int shape = 0; shape < sums.length; shape++) {
            long before = counter.getThreadAllocatedBytes(self);
            sums[shape] = dearRun(shape);
            long made = counter.getThreadAllocatedBytes(self) - before;
            System.out.println("shape " + shape + ": " + made + " bytes");
            if (made > MOST_BYTES) failed++;
        }
        System.out.println("RoomTest: " + (sums.length - failed) + " passed, " + failed + " failed");
        if (failed != 0) System.exit(1);
    }

    /** A deed ahead of each question, so that all CANDIDATES are made anew each time. */
    private static int dearRun(int shape) {
        RepeaterWires x = new RepeaterWires();
        for (int v = 1; v < 6; v++) {
            x.node(shape == 0 ? v - 1 : shape == 1 ? 0 : v / shape, 1 + v, 9 - v);
            x.end(v, 10 - v, 400, 0);
        }
        x.kind(1, 1, 2, 6, 10, 0);
        x.kind(2, 3, 1, 9, 16, 0);
        x.kind(3, 6, 0, 12, 31, 0);
        int sum = 0;
        // 13 calls made the net, each round makes three
        for (int call = 16; call <= 512; call += 3) {
            x.pull(call % 10);
            sum += x.candidate(0, 0, call % 50, 1) + x.told(8 + call / 3 % 3);
        }
        return sum;
    }
}

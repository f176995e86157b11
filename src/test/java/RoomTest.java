import java.lang.management.ManagementFactory;

/** All calls of a run live in one room: the calls make no objects, and a new object stays small. */
public final class RoomTest {
    private static final int CALLS = 512;
    private static final com.sun.management.ThreadMXBean THREADS =
        (com.sun.management.ThreadMXBean) ManagementFactory.getThreadMXBean();

    private RoomTest() {
    }

    public static void main(String[] args) {
        dearCalls();
        long before = bytes();
        RepeatNests x = new RepeatNests();
        long made = bytes() - before;
        // Some 7,000 elements of up to 8 bytes: a thousand new objects fit into 7.3 million.
        Due.holds("a new object takes " + made + " bytes", x.count(0) == 0 && made < 60000);
        long calls = dearCalls();
        Due.holds(CALLS + " dear calls make " + calls + " bytes", calls < 4096);
        Due.end();
    }

    private static long bytes() {
        return THREADS.getThreadAllocatedBytes(Thread.currentThread().getId());
    }

    private static long dearCalls() {
        RepeatNests x = Due.row("aaaaaabbaaaaaabbaaaaaabb", 1, 0, 0, 6, 4);
        Due.type(x, "2(2(2(2(a)[1,b])[3,a]))2(a)");
        long before = bytes();
        long sum = 0;
        for (int call = 0; call < CALLS; call += 16) {
            sum += x.change(call % 24, call / 16 % 4);
            sum += x.bestChange(0) + x.would(3, 2) + x.cheapest(0, 24, 5) + x.textAt(9) + x.descriptions(0, 24);
            sum += x.runOf(1, 2) + x.period(0, 24) + x.set(3, call % 7) + x.adopt() + x.undo() + x.told(3);
            sum += x.type('(') + x.fault(0) + x.clearText() + x.turn();
        }
        Due.holds("the calls answer", sum != 0);
        return bytes() - before;
    }
}

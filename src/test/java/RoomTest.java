import java.lang.management.ManagementFactory;

/** What an object and its 512 dearest calls make: next to nothing, as all of a run live in one room. */
public final class RoomTest {
    private static final com.sun.management.ThreadMXBean THREADS =
        (com.sun.management.ThreadMXBean) ManagementFactory.getThreadMXBean();

    public static void main(String[] args) {
        // Once before, so that loading classes does not count.
        dearCalls(new StateShares(6));
        long before = made();
        StateShares x = new StateShares(6);
        long behind = made();
        Check.yes("a new object takes " + (behind - before) + " bytes", behind - before < 120_000);
        before = made();
        dearCalls(x);
        behind = made();
        Check.yes("512 calls take " + (behind - before) + " bytes", behind - before < 20_000);
        Check.finish();
    }

    private static long made() {
        return THREADS.getThreadAllocatedBytes(Thread.currentThread().getId());
    }

    private static void dearCalls(StateShares x) {
        long all = 0;
        for (int i = 0; i < 60; i++) {
            x.mark(i % 10, i % 12, i % 4, i * i % 6);
        }
        for (int i = 0; i < 60; i++) {
            x.works(i % 11, i % 6, (i + 1) % 6, 333 + i, 997 - i);
        }
        for (int i = 0; i < 49; i++) {
            x.unit("max;n<3:mid;".charAt(i % 12));
            x.start(i % 6, i, 1000 - i);
            all += x.at(i % 6, 11, 0) + x.worth(i % 12, 0) + x.target(i % 6, 999, 1000) + (x.sums(9) ? 1 : 0);
            all += x.drawn(i, i % 10, 11) + x.grade();
        }
        Check.yes("the calls answer", all != 1);
    }
}

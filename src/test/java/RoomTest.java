import java.lang.management.ManagementFactory;

/** All calls of one run live in one room: none of the dear calls may make much that is new. */
public final class RoomTest {
    private static final long MOST_BYTES = 4_000_000;
    private static final com.sun.management.ThreadMXBean THREADS =
            (com.sun.management.ThreadMXBean) ManagementFactory.getThreadMXBean();

    private static long allocated() {
        return THREADS.getThreadAllocatedBytes(Thread.currentThread().getId());
    }

    private static GlassLog full() {
        GlassLog x = new GlassLog();
        x.open(0);
        for (int k = 0; k < 400; k++) {
            x.add(0, 7919 * k, k);
        }
        x.fork(0, 399);
        x.add(1, 5, 5L);
        return x;
    }

    private static void call(GlassLog x, int which, int k) {
        switch (which) {
            case 0 -> x.image();
            case 1 -> x.back();
            case 2 -> x.fork(0, 400);
            case 3 -> x.head(0, 400 - k, 2, 0);
            case 4 -> x.held(k % 16, 0, 400, 7919 * k);
            case 5 -> x.absent(k % 16, 0, 400, 7919 * k + 1);
            case 6 -> x.span(k % 16, 0, 400, k, k + 40);
            case 7 -> x.grown(k % 16, 0, k, 400);
            case 8 -> x.take(k % 2, k % 2, 400);
            case 9 -> x.talk(0, 1);
            case 10 -> x.watcher(k % 8, 0, Integer.MIN_VALUE, Integer.MAX_VALUE);
            case 11 -> x.watch(k % 8);
            case 12 -> x.check(k % 16, 0, 1);
            case 13 -> x.hide(0, k);
            case 14 -> x.latest(0, 400, k);
            default -> x.count(0, 3);
        }
    }

    public static void main(String[] args) {
        full();
        for (int which = 0; which < 16; which++) {
            long before = allocated();
            GlassLog x = full();
            x.image();
            x.take(0, 0, 400);
            x.take(1, 1, 400);
            for (int k = 0; k < 105; k++) {
                call(x, which, k);
            }
            Due.due("call " + which + " keeps to the room", allocated() - before < MOST_BYTES, true);
        }
        long before = allocated();
        GlassLog x = full();
        for (int k = 0; k < 105; k++) {
            call(x, k % 2 == 0 ? k % 16 : 1, k);
        }
        Due.due("image(), back() and others by turns", allocated() - before < MOST_BYTES, true);
        before = allocated();
        for (int k = 0; k < 512; k++) {
            new GlassLog();
        }
        Due.due("bytes of 512 new objects", (allocated() - before) / 512 < 100_000, true);
        Due.end();
    }
}

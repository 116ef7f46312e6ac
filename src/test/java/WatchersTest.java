/** Promises 28 to 30: watcher, watch, watching. */
public final class WatchersTest {
    private static final int NONE = GlassLog.NONE;

    private static void watchingIs(GlassLog x, int w, int... due) {
        for (int what = 0; what < due.length; what++) {
            Due.due("watching(" + w + ", " + what + ")", x.watching(w, what), due[what]);
        }
    }

    private static void promise28Watcher() {
        GlassLog x = new GlassLog();
        Due.due("watcher in no log", x.watcher(0, 0, 0, 9), false);
        x.open(0);
        Due.due("watcher(8, ..)", x.watcher(8, 0, 0, 9), false);
        Due.due("watcher(-1, ..)", x.watcher(-1, 0, 0, 9), false);
        Due.due("watcher in log 1", x.watcher(0, 1, 0, 9), false);
        Due.due("none came", x.watching(0, 0), NONE);
        Due.due("watcher(7, ..)", x.watcher(7, 0, 2, 4), true);
        for (int key = 0; key < 8; key++) {
            x.add(0, key, key);
        }
        Due.due("watch", x.watch(7), 0);
        watchingIs(x, 7, 8, 3, 0);
        Due.due("from its beginning on", x.watcher(7, 0, 4, 4), true);
        watchingIs(x, 7, 0, 0, 0);
        Due.due("refused", x.watcher(7, 3, 0, 9), false);
        x.watch(7);
        watchingIs(x, 7, 8, 1, 0);
        Due.due("from high to low there is no key", x.watcher(7, 0, 4, 2), true);
        Due.due("watch", x.watch(7), 0);
        watchingIs(x, 7, 8, 0, 0);
        x.watcher(6, 0, Integer.MIN_VALUE, Integer.MAX_VALUE);
        x.watch(6);
        watchingIs(x, 6, 8, 8, 0);
    }

    private static void promise29Watch() {
        GlassLog x = new GlassLog();
        x.open(0);
        for (int w : new int[] {-1, 0, 7, 8, Integer.MAX_VALUE}) {
            Due.due("watch(" + w + ")", x.watch(w), NONE);
        }
        x.watcher(0, 0, 1, 3);
        Due.due("nothing to read", x.watch(0), 0);
        x.add(0, 1, 1L);
        x.add(0, 2, 1L);
        x.add(0, 1, 2L);
        Due.due("all is as read", x.watch(0), 0);
        x.hide(0, 1);
        Due.due("a hidden one", x.watch(0), 1);
        Due.due("each time anew", x.watch(0), 1);
        x.lag(0, 2);
        Due.due("one that lags, with nothing new", x.watch(0), 1);
        x.add(0, 2, 2L);
        Due.due("one that lags", x.watch(0), 2);
        x.hide(0, 3);
        Due.due("what it has not read", x.watch(0), 2);
        x.add(0, 3, 2L);
        Due.due("what it has read", x.watch(0), 3);
        Due.due("hidden, but not its key", x.hide(0, 9), true);
        x.add(0, 9, 2L);
        Due.due("not its key", x.watch(0), 3);
        watchingIs(x, 0, 6, 3, 0);
    }

    private static void goneOnes() {
        GlassLog x = new GlassLog();
        x.open(0);
        x.add(0, 1, 1L);
        x.add(0, 1, 2L);
        x.add(0, 2, 3L);
        x.watcher(0, 0, 0, 9);
        x.watch(0);
        x.keep(0, 0);
        x.prune(0, 3);
        Due.due("what it has read stays read", x.watch(0), 0);
        watchingIs(x, 0, 3, 2, 0);
        x.watcher(1, 0, 0, 9);
        Due.due("a later one reads the kept entry alone", x.watch(1), 1);
        watchingIs(x, 1, 3, 1, 0);
        x.add(0, 1, 4L);
        Due.due("a new one mends it", x.watch(1), 0);
        watchingIs(x, 1, 4, 1, 0);
    }

    private static void promise30Watching() {
        GlassLog x = new GlassLog();
        x.open(0);
        x.open(0);
        for (int w : new int[] {-1, 0, 7, 8}) {
            watchingIs(x, w, NONE, NONE, NONE, NONE);
        }
        x.watcher(3, 1, 0, 9);
        watchingIs(x, 3, 0, 0, 1, NONE);
        Due.due("watching(3, -1)", x.watching(3, -1), NONE);
        x.add(1, 5, 5L);
        x.add(1, 5, 6L);
        watchingIs(x, 3, 0, 0, 1, NONE);
        x.watch(3);
        watchingIs(x, 3, 2, 1, 1, NONE);
        x.fork(1, 2);
        x.add(2, 6, 6L);
        Due.due("another face is not looked at", x.watch(3), 0);
        watchingIs(x, 3, 2, 1, 1, NONE);
    }

    public static void main(String[] args) {
        promise28Watcher();
        promise29Watch();
        goneOnes();
        promise30Watching();
        Due.end();
    }
}

/** Promises 1 to 11: a new object, open, add, fork, hide, lag, prune, keep, count, latest, head. */
public final class LogsTest {
    private static final int NONE = GlassLog.NONE;
    private static final int[] FAR = {-1, 6, 7, Integer.MIN_VALUE, Integer.MAX_VALUE};

    private static GlassLog filled(int keeper, int... keys) {
        GlassLog x = new GlassLog();
        x.open(keeper);
        for (int key : keys) {
            x.add(0, key, 10L * key);
        }
        return x;
    }

    private static void promise1NewObject() {
        GlassLog x = new GlassLog();
        for (int what = 0; what < 5; what++) {
            Due.due("new: all(" + what + ")", x.all(what), 0);
        }
        for (int slot = 0; slot < 16; slot++) {
            for (int what = 0; what < 8; what++) {
                Due.due("new: proof(" + slot + ", " + what + ")", x.proof(slot, what), 0);
            }
            Due.due("new: drop(" + slot + ")", x.drop(slot), 0);
        }
        for (int r = 0; r < 12; r++) {
            Due.due("new: reader(" + r + ", 0)", x.reader(r, 0), NONE);
            Due.due("new: reader(" + r + ", 3)", x.reader(r, 3), 0);
        }
        for (int w = 0; w < 8; w++) {
            Due.due("new: watching(" + w + ", 0)", x.watching(w, 0), NONE);
        }
        Due.due("new: back()", x.back(), false);
        Due.due("new: count(0, 0)", x.count(0, 0), NONE);
        Due.due("new: blame(0, 0)", x.blame(0, 0), NONE);
        Due.due("NONE", NONE, -1);
    }

    private static void promise2Open() {
        GlassLog x = new GlassLog();
        Due.due("open(-1)", x.open(-1), NONE);
        Due.due("open(4)", x.open(4), NONE);
        Due.due("open(MIN)", x.open(Integer.MIN_VALUE), NONE);
        for (int k = 0; k < 6; k++) {
            Due.due("open, the " + k + "th", x.open(k % 4), k);
            Due.due("its keeper", x.count(k, 2), k % 4);
            Due.due("its entries", x.count(k, 0), 0);
        }
        Due.due("open, the seventh", x.open(0), NONE);
        Due.due("logs", x.all(0), 6);
    }

    private static void promise3Add() {
        GlassLog x = filled(2);
        for (int far : FAR) {
            Due.due("add to log " + far, x.add(far, 1, 1L), NONE);
        }
        Due.due("add to a log not opened", x.add(1, 1, 1L), NONE);
        for (int k = 1; k <= 400; k++) {
            Due.due("add " + k, x.add(0, k % 7, k), k);
        }
        Due.due("add the 401st", x.add(0, 1, 1L), NONE);
        Due.due("entries", x.count(0, 0), 400);
        Due.due("latest of the last key", x.latest(0, 400, 400 % 7), 399);
        x.open(1);
        Due.due("add to another one", x.add(1, 5, 5L), 1);
        Due.due("all entries", x.all(4), 401);
        // The same KEY with a VALUE of another higher, lower half has another SUM.
        GlassLog y = filled(0);
        y.open(0);
        y.open(0);
        y.add(0, 5, 1L);
        y.add(1, 5, 1L | 1L << 32);
        y.add(2, 5, 2L);
        Due.due("higher half counts", y.head(0, 1, 0, 0) != y.head(1, 1, 0, 0), true);
        Due.due("lower half counts", y.head(0, 1, 0, 0) != y.head(2, 1, 0, 0), true);
    }

    private static void promise4Fork() {
        GlassLog x = filled(3, 1, 2, 3, 1);
        x.hide(0, 2);
        x.lag(0, 1);
        x.add(0, 1, 0L);
        x.hide(0, 3);
        x.keep(0, 0);
        x.keep(0, 4);
        x.prune(0, 2);
        for (int far : FAR) {
            Due.due("fork of log " + far, x.fork(far, 0), NONE);
        }
        Due.due("fork at -1", x.fork(0, -1), NONE);
        Due.due("fork at 6", x.fork(0, 6), NONE);
        Due.due("logs after refused forks", x.all(0), 1);
        Due.due("fork at 4", x.fork(0, 4), 1);
        Due.due("its entries", x.count(1, 0), 4);
        Due.due("its gone ones", x.count(1, 1), 1);
        Due.due("its keeper", x.count(1, 2), 3);
        Due.due("its hidden ones", x.count(1, 4), 1);
        Due.due("its lagging ones", x.count(1, 5), 1);
        Due.due("hidden since 4", x.latest(1, 4, 2), NONE);
        Due.due("hidden since 5 only", x.latest(1, 4, 3), 2);
        Due.due("hide it anew", x.hide(1, 3), true);
        Due.due("hide what is hidden", x.hide(1, 2), false);
        x.add(1, 1, 99L);
        Due.due("lags there too", x.latest(1, 5, 1), 3);
        Due.due("kept there too", x.prune(1, 5), 3);
        Due.due("fork at 3", x.fork(0, 3), 2);
        Due.due("no mark is since 3", x.count(2, 4) + x.count(2, 5), 0);
        Due.due("fork at 0", x.fork(0, 0), 3);
        Due.due("empty one", x.count(3, 0), 0);
        Due.due("fork at all", x.fork(0, 5), 4);
        for (int j = 0; j < 8; j++) {
            Due.due("like top " + j, x.head(4, 5, 0, j), x.head(0, 5, 0, j));
            Due.due("like tree " + j, x.head(4, 5, 1, j), x.head(0, 5, 1, j));
        }
        x.fork(4, 2);
        Due.due("a seventh log", x.fork(0, 1), NONE);
        x.add(4, 9, 9L);
        Due.due("the first one stays", x.count(0, 0), 5);
    }

    private static void promise5Hide() {
        GlassLog x = filled(0, 7, 8, 7);
        Due.due("hide in no log", x.hide(1, 7), false);
        Due.due("hide in log -1", x.hide(-1, 7), false);
        Due.due("tree ahead of it is not nought", x.head(0, 3, 1, 0) != 0, true);
        int before = x.head(0, 3, 1, 0);
        int earlier = x.head(0, 2, 1, 0);
        Due.due("hide 7", x.hide(0, 7), true);
        Due.due("the tree at its count is another one", x.head(0, 3, 1, 0) != before, true);
        Due.due("an earlier one stays", x.head(0, 2, 1, 0), earlier);
        Due.due("hide 7 again", x.hide(0, 7), false);
        Due.due("lag what is hidden", x.lag(0, 7), false);
        Due.due("latest of 7 at 3", x.latest(0, 3, 7), NONE);
        Due.due("latest of 7 at 2", x.latest(0, 2, 7), 0);
        x.add(0, 7, 1L);
        Due.due("stays hidden", x.latest(0, 4, 7), NONE);
        Due.due("hide what is not there yet", x.hide(0, 50), true);
        x.add(0, 50, 1L);
        Due.due("it does not come", x.latest(0, 5, 50), NONE);
        Due.due("keys in the map", x.count(0, 3), 1);
    }

    private static void promise6Lag() {
        GlassLog x = filled(0, 7, 8, 7);
        Due.due("lag in no log", x.lag(1, 7), false);
        Due.due("lag 7", x.lag(0, 7), true);
        Due.due("lag 7 again", x.lag(0, 7), false);
        Due.due("hide what lags", x.hide(0, 7), false);
        x.add(0, 7, 1L);
        x.add(0, 8, 1L);
        Due.due("latest of 7 at 5", x.latest(0, 5, 7), 2);
        Due.due("latest of 7 at 3", x.latest(0, 3, 7), 2);
        Due.due("latest of 7 at 2", x.latest(0, 2, 7), 0);
        Due.due("latest of 8 at 5", x.latest(0, 5, 8), 4);
        Due.due("lag what is not there", x.lag(0, 60), true);
        x.add(0, 60, 1L);
        Due.due("the last of none", x.latest(0, 6, 60), NONE);
        Due.due("keys in the map", x.count(0, 3), 2);
        GlassLog y = filled(0, 1);
        for (int k = 0; k < 100; k++) {
            Due.due("mark " + k, k % 3 == 0 ? y.hide(0, k) : y.lag(0, k), true);
        }
        Due.due("the 101st hidden", y.hide(0, 1000), false);
        Due.due("the 101st that lags", y.lag(0, 1000), false);
        Due.due("hidden", y.count(0, 4), 34);
        Due.due("lagging", y.count(0, 5), 66);
        y.open(0);
        Due.due("in another log", y.hide(1, 1000), true);
    }

    private static void promise7Prune() {
        GlassLog x = filled(0, 1, 2, 3, 4, 5);
        int top = x.head(0, 5, 0, 0);
        int tree = x.head(0, 5, 1, 0);
        Due.due("prune log 1", x.prune(1, 0), NONE);
        Due.due("prune at -1", x.prune(0, -1), NONE);
        Due.due("prune at 6", x.prune(0, 6), NONE);
        Due.due("none is gone", x.count(0, 1), 0);
        Due.due("prune at 0", x.prune(0, 0), 0);
        x.keep(0, 1);
        Due.due("prune at 3", x.prune(0, 3), 2);
        Due.due("prune at 3 again", x.prune(0, 3), 0);
        Due.due("within of a gone one", x.within(0, 0, 5, 0), NONE);
        Due.due("within of the kept one", x.within(0, 0, 5, 1), 3);
        Due.due("span over a gone one", x.span(0, 0, 5, 1, 3), NONE);
        Due.due("span of the kept one", x.span(0, 0, 5, 1, 2), 3);
        Due.due("prune at all", x.prune(0, 5), 2);
        Due.due("gone", x.count(0, 1), 4);
        Due.due("entries", x.count(0, 0), 5);
        Due.due("its top stays", x.head(0, 5, 0, 0), top);
        Due.due("its tree stays", x.head(0, 5, 1, 0), tree);
        Due.due("latest stays", x.latest(0, 5, 3), 2);
        x.take(0, 0, 5);
        x.held(0, 0, 5, 3);
        Due.due("held of a gone entry's key", x.check(0, 0, 0), 1);
        Due.due("add behind gone ones", x.add(0, 1, 1L), 6);
    }

    private static void promise8Keep() {
        GlassLog x = filled(0, 1, 2, 3);
        Due.due("keep in log 1", x.keep(1, 0), false);
        Due.due("keep -1", x.keep(0, -1), false);
        Due.due("keep 3", x.keep(0, 3), false);
        Due.due("keep 2", x.keep(0, 2), true);
        Due.due("keep 2 again", x.keep(0, 2), true);
        Due.due("prune", x.prune(0, 3), 2);
        Due.due("keep a gone one", x.keep(0, 0), false);
        Due.due("keep the kept one", x.keep(0, 2), true);
        Due.due("gone", x.count(0, 1), 2);
    }

    private static void promise9Count() {
        GlassLog x = filled(3, 1, 2, 1, 3);
        int[] due = {4, 0, 3, 3, 0, 0};
        for (int what = 0; what < 6; what++) {
            Due.due("count(0, " + what + ")", x.count(0, what), due[what]);
        }
        Due.due("count(0, 6)", x.count(0, 6), NONE);
        Due.due("count(0, -1)", x.count(0, -1), NONE);
        Due.due("count(1, 0)", x.count(1, 0), NONE);
        Due.due("count(-1, 0)", x.count(-1, 0), NONE);
        x.prune(0, 2);
        x.hide(0, 1);
        x.lag(0, 2);
        x.lag(0, 9);
        int[] later = {4, 2, 3, 2, 1, 2};
        for (int what = 0; what < 6; what++) {
            Due.due("later: count(0, " + what + ")", x.count(0, what), later[what]);
        }
    }

    private static void promise10Latest() {
        GlassLog x = filled(0, 5, -5, 5, Integer.MIN_VALUE, Integer.MAX_VALUE);
        Due.due("latest at 0", x.latest(0, 0, 5), NONE);
        Due.due("latest at 1", x.latest(0, 1, 5), 0);
        Due.due("latest at 2", x.latest(0, 2, 5), 0);
        Due.due("latest at 3", x.latest(0, 3, 5), 2);
        Due.due("latest of -5", x.latest(0, 5, -5), 1);
        Due.due("latest of MIN", x.latest(0, 5, Integer.MIN_VALUE), 3);
        Due.due("latest of MAX", x.latest(0, 5, Integer.MAX_VALUE), 4);
        Due.due("latest of MAX at 4", x.latest(0, 4, Integer.MAX_VALUE), NONE);
        Due.due("latest of another", x.latest(0, 5, 6), NONE);
        Due.due("latest at 6", x.latest(0, 6, 5), NONE);
        Due.due("latest at -1", x.latest(0, -1, 5), NONE);
        Due.due("latest in log 1", x.latest(1, 0, 5), NONE);
    }

    private static void promise11Head() {
        GlassLog x = filled(2, 7, 8, 7);
        int[] first = Model.sum(new Model.Entry(7, 70L));
        int[] second = Model.sum(new Model.Entry(8, 80L));
        int[] third = Model.sum(new Model.Entry(7, 70L));
        int[] top = Model.joined(Model.joined(first, second), third);
        int[] seven = Model.mix(5, 7, 2);
        int[] eight = Model.mix(5, 8, 1);
        int depth = 0;
        while (Model.bit(7, depth) == Model.bit(8, depth)) {
            depth++;
        }
        int[] tree = Model.bit(7, depth) == 0 ? Model.joined(seven, eight) : Model.joined(eight, seven);
        for (int d = depth - 1; d >= 0; d--) {
            tree = Model.bit(7, d) == 0 ? Model.joined(tree, new int[8]) : Model.joined(new int[8], tree);
        }
        int[] mark = Model.mix(Model.words(6, new int[] {2, 2000083, 3}, top, tree));
        int[] empty = Model.mix(Model.words(6, new int[] {2, 2000083, 0}, new int[8], new int[8]));
        int[] alone = Model.mix(5, 7, 0);
        for (int j = 0; j < 8; j++) {
            Due.due("top " + j, x.head(0, 3, 0, j), top[j]);
            Due.due("tree " + j, x.head(0, 3, 1, j), tree[j]);
            Due.due("mark " + j, x.head(0, 3, 2, j), mark[j]);
            Due.due("top at 0 " + j, x.head(0, 0, 0, j), 0);
            Due.due("tree at 0 " + j, x.head(0, 0, 1, j), 0);
            Due.due("mark at 0 " + j, x.head(0, 0, 2, j), empty[j]);
            Due.due("top at 1 " + j, x.head(0, 1, 0, j), first[j]);
            Due.due("tree at 1 " + j, x.head(0, 1, 1, j), alone[j]);
        }
        Due.due("head of log 1", x.head(1, 0, 2, 0), 0);
        Due.due("head of log -1", x.head(-1, 0, 2, 0), 0);
        Due.due("head at 4", x.head(0, 4, 2, 0), 0);
        Due.due("head at -1", x.head(0, -1, 2, 0), 0);
        Due.due("head, what 3", x.head(0, 3, 3, 0), 0);
        Due.due("head, what -1", x.head(0, 3, -1, 0), 0);
        Due.due("head, int 8", x.head(0, 3, 2, 8), 0);
        Due.due("head, int -1", x.head(0, 3, 2, -1), 0);
    }

    /** A full LOG of unlike KEYS, at counts around powers of two, against the Model. */
    private static void headsOfAFullLog() {
        GlassLog x = filled(1);
        Model model = new Model();
        model.open(1);
        for (int k = 0; k < 400; k++) {
            x.add(0, 31 * k, ~(long) k << 20);
            model.add(0, 31 * k, ~(long) k << 20);
        }
        for (int n : new int[] {31, 32, 33, 255, 256, 257, 384, 399, 400}) {
            for (int what = 0; what < 3; what++) {
                Due.due("full: head at " + n, x.head(0, n, what, n % 8), model.head(0, n, what, n % 8));
            }
        }
    }

    public static void main(String[] args) {
        promise1NewObject();
        promise2Open();
        promise3Add();
        promise4Fork();
        promise5Hide();
        promise6Lag();
        promise7Prune();
        promise8Keep();
        promise9Count();
        promise10Latest();
        promise11Head();
        headsOfAFullLog();
        Due.end();
    }
}

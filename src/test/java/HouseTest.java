import java.util.ArrayList;
import java.util.List;

/** Promises 31 to 33: all, image, back. */
public final class HouseTest {
    private static final int NONE = GlassLog.NONE;

    private static GlassLog house() {
        GlassLog x = new GlassLog();
        x.open(1);
        for (int k = 0; k < 5; k++) {
            x.add(0, k % 3, k);
        }
        x.fork(0, 3);
        x.add(1, 8, 8L);
        x.add(1, 9, 9L);
        x.hide(0, 1);
        x.lag(1, 2);
        x.keep(0, 0);
        x.prune(0, 2);
        x.within(0, 0, 5, 3);
        x.span(1, 1, 5, 1, 4);
        x.grown(2, 1, 2, 5);
        x.held(3, 1, 5, 8);
        x.absent(4, 1, 5, 77);
        x.take(0, 0, 5);
        x.take(1, 1, 5);
        x.take(2, 1, 2);
        x.talk(0, 1);
        x.smear(0, 1, 1);
        x.watcher(0, 0, 0, 9);
        x.watch(0);
        x.watcher(5, 1, 0, 9);
        return x;
    }

    /** Answers of calls that change nothing. */
    private static List<Integer> seen(GlassLog x) {
        List<Integer> seen = new ArrayList<>();
        for (int what = 0; what < 5; what++) {
            seen.add(x.all(what));
        }
        for (int log = 0; log < 3; log++) {
            for (int what = 0; what < 6; what++) {
                seen.add(x.count(log, what));
            }
            for (int n = 0; n < 7; n++) {
                seen.add(x.head(log, n, 2, 0));
                seen.add(x.latest(log, n, 1));
            }
        }
        for (int slot = 0; slot < 7; slot++) {
            for (int what = 0; what < 8; what++) {
                seen.add(x.proof(slot, what));
            }
            for (int s = 0; s < 6; s++) {
                seen.add(x.step(slot, s, s));
            }
            for (int r = 0; r < 3; r++) {
                seen.add(x.check(slot, 2, r));
                seen.add(x.check(slot, r, 1));
            }
        }
        for (int k = 0; k < 3; k++) {
            for (int what = 0; what < 8; what++) {
                seen.add(x.reader(k, what));
                seen.add(x.blame(k, what));
            }
        }
        for (int w = 0; w < 8; w++) {
            for (int what = 0; what < 3; what++) {
                seen.add(x.watching(w, what));
            }
        }
        return seen;
    }

    private static void promise31All() {
        GlassLog x = house();
        int[] due = {2, 5, 3, 1, 10};
        for (int what = 0; what < due.length; what++) {
            Due.due("all(" + what + ")", x.all(what), due[what]);
        }
        for (int what : new int[] {-1, 5, Integer.MIN_VALUE, Integer.MAX_VALUE}) {
            Due.due("all(" + what + ")", x.all(what), NONE);
        }
    }

    private static void changeAll(GlassLog x) {
        x.add(0, 7, 7L);
        x.add(1, 7, 7L);
        x.open(0);
        x.add(2, 1, 1L);
        x.hide(1, 8);
        x.lag(0, 0);
        x.keep(1, 0);
        x.prune(1, 4);
        x.prune(0, 5);
        x.bend(0, 0, 0, 1);
        x.forge(1, 0, 1, 2L);
        x.drop(2);
        x.absent(3, 1, 0, 1);
        x.within(6, 2, 1, 0);
        x.take(0, 2, 1);
        x.take(2, 1, 6);
        x.take(1, 0, 6);
        x.take(11, 0, 6);
        x.smear(0, 1, 1);
        x.smear(0, 2, 2);
        x.watch(0);
        x.watch(5);
        x.watcher(0, 1, 3, 4);
        x.watcher(7, 0, 0, 1);
    }

    private static void promises32And33ImageBack() {
        GlassLog x = house();
        Due.due("back() without an image", x.back(), false);
        List<Integer> before = seen(x);
        x = house();
        Due.due("image()", x.image(), true);
        changeAll(x);
        Due.due("back()", x.back(), true);
        Due.due("all is as it was", seen(x).equals(before), true);
        x = house();
        x.image();
        changeAll(x);
        x.back();
        changeAll(x);
        Due.due("back() once more", x.back(), true);
        Due.due("all is as it was again", seen(x).equals(before), true);
    }

    private static void whatIsNotSeenComesBackToo() {
        GlassLog x = house();
        x.image();
        changeAll(x);
        x.back();
        GlassLog y = house();
        // Kept entries, a watcher's bounds and what it has read show only in later calls.
        for (int k = 0; k < 3; k++) {
            Due.due("add", x.add(0, k, k), y.add(0, k, k));
            Due.due("add", x.add(1, 9 * k, k), y.add(1, 9 * k, k));
        }
        for (int w = 0; w < 8; w++) {
            Due.due("watch(" + w + ")", x.watch(w), y.watch(w));
        }
        Due.due("prune", x.prune(0, 8), y.prune(0, 8));
        Due.due("prune", x.prune(1, 8), y.prune(1, 8));
        Due.due("hide", x.hide(1, 8), y.hide(1, 8));
        Due.due("talk", x.talk(1, 2), y.talk(1, 2));
        Due.due("as one without image()", seen(x).equals(seen(y)), true);
    }

    private static void theLatestImageCounts() {
        GlassLog x = new GlassLog();
        x.open(0);
        x.image();
        x.add(0, 1, 1L);
        x.image();
        x.add(0, 2, 2L);
        x.back();
        Due.due("entries at the latest image", x.count(0, 0), 1);
        Due.due("back() again", x.back(), true);
        Due.due("not at an earlier one", x.count(0, 0), 1);
        x.add(0, 3, 3L);
        Due.due("goes on", x.latest(0, 2, 3), 1);
        Due.due("what was taken back is not there", x.latest(0, 2, 2), NONE);
        GlassLog y = new GlassLog();
        y.image();
        y.open(0);
        y.add(0, 1, 1L);
        y.watcher(0, 0, 0, 9);
        y.take(0, 0, 1);
        y.back();
        Due.due("logs of an empty image", y.all(0), 0);
        Due.due("heads of an empty image", y.all(2), 0);
        Due.due("watchers of an empty image", y.watch(0), NONE);
        Due.due("open anew", y.open(2), 0);
        Due.due("it is empty", y.count(0, 0), 0);
        Due.due("its keeper", y.count(0, 2), 2);
    }

    /** What is reckoned once and kept ready must not outlive what it was reckoned from. */
    private static void noTreeOutlivesBack() {
        GlassLog x = new GlassLog();
        x.open(1);
        int due = treeOfTwo(x, 7);
        GlassLog y = new GlassLog();
        y.image();
        y.open(1);
        treeOfTwo(y, 12);
        y.back();
        y.open(1);
        Due.due("tree of a log opened after back()", treeOfTwo(y, 7), due);
        GlassLog z = new GlassLog();
        z.open(1);
        z.image();
        treeOfTwo(z, 12);
        z.back();
        Due.due("tree of a log that back() emptied", treeOfTwo(z, 7), due);
    }

    private static int treeOfTwo(GlassLog x, int key) {
        x.add(0, key, 1L);
        x.add(0, 9, 1L);
        return x.head(0, 2, 1, 0);
    }

    public static void main(String[] args) {
        promise31All();
        promises32And33ImageBack();
        whatIsNotSeenComesBackToo();
        theLatestImageCounts();
        noTreeOutlivesBack();
        Due.end();
    }
}

/** Edges of promises 28 to 30: watcher, watch, watching. */
final class WatcherEdges {
    private static final int NONE = GlassLog.NONE;
    private static final String HOUSE = Houses.HOUSE;
    private static final String NO_WATCHERS = Houses.NO_WATCHERS;
    /** WATCHERS of HOUSE that no call has set. */
    private static final String UNSET = "1 4 7";
    private static final String FOUR_KEYS = "open(0) add(0, 4, 1) add(0, 5, 1) add(0, 6, 1) add(0, 7, 1) ";

    private WatcherEdges() { }

    static void run() {
        term4Watchers();
        promise28Watcher();
        promise28WatcherRefused();
        promise29WatchReads();
        promise29WatchAsks();
        promise29WatchNone();
        promise30Watching();
    }

    private static void term4Watchers() {
        Edge.term(4, "WATCHERS 0 .. 7 look at the KEYS from one to another one in one LOG.")
                .given(FOUR_KEYS + "open(0)")
                .dues(1, Calls.times(8, "watcher(#, 0, 5, 6)"))
                .dues(0, Calls.times(8, "watch(#)"))
                .dues(2, Calls.times(8, "watching(#, 1)"))
                .refused("watcher(8, 0, 5, 6) watcher(-1, 0, 5, 6)")
                .given("add(1, 5, 1)")
                .due(0, "watch(0)").due(4, "watching(0, 0)");
    }

    private static void promise28Watcher() {
        String words = "A WATCHER looks at KEYS from low to high in a LOG, from its beginning on: true.";
        Edge.promise(28, words).given(FOUR_KEYS)
                .due(1, "watcher(0, 0, 5, 6)").row("watching(0, #)", 0, 0, 0)
                .due(1, "watcher(1, 0, 5, 5)").due(1, "watcher(2, 0, 6, 5)").due(1, "watcher(3, 0, MIN, MAX)")
                .due(1, "watcher(4, 0, 7, MAX)").due(1, "watcher(5, 0, MIN, 4)").due(1, "watcher(6, 0, 8, MAX)")
                .due(1, "watcher(7, 0, MAX, MIN)")
                .dues(0, Calls.times(8, "watch(#)"))
                .row("watching(#, 1)", 2, 1, 0, 4, 1, 1, 0, 0)
                .row("watching(#, 0)", 4, 4, 4, 4, 4, 4, 4, 4);
        Edge.promise(28, words).given("open(0) add(0, MIN, 1) add(0, MAX, 1) add(0, 0, 1) add(0, -1, 1)")
                .given("watcher(0, 0, MIN, MIN) watcher(1, 0, MAX, MAX) watcher(2, 0, 0, MAX) watcher(3, 0, MIN, -1)")
                .given("watcher(4, 0, 0, 0) watcher(5, 0, MIN, MAX)")
                .dues(0, Calls.times(6, "watch(#)"))
                .row("watching(#, 1)", 1, 1, 2, 2, 1, 4);
        // Set anew it begins anew, in another LOG or in the same one.
        Edge.promise(28, "from its beginning on: true.").given(HOUSE)
                .row("watching(6, #)", 2, 2, 2)
                .due(1, "watcher(6, 2, -10, 10)").row("watching(6, #)", 0, 0, 2)
                .due(1, "watcher(6, 0, 1, 1)").row("watching(6, #)", 0, 0, 0)
                .due(0, "watch(6)").row("watching(6, #)", 6, 1, 0);
    }

    private static void promise28WatcherRefused() {
        Edge.promise(28, "Refused: no such WATCHER, LOG.").given(HOUSE)
                .refused("watcher(#, 0, 0, 9)", NO_WATCHERS)
                .refused("watcher(0, #, 0, 9)", Houses.NO_LOGS)
                .refused("watcher(7, #, 0, 9)", Houses.NO_LOGS)
                .refused("watcher(5, #, 9, 0)", Houses.NO_LOGS);
    }

    private static void promise29WatchReads() {
        Edge.promise(29, "It reads all entries that are new to it (gone ones have no KEY),")
                .given("open(0) watcher(0, 0, 0, 9)")
                .due(0, "watch(0)").row("watching(0, #)", 0, 0, 0)
                .given("add(0, 1, 1) add(0, 2, 1) add(0, 3, 1) keep(0, 1) prune(0, 3)")
                .due(0, "watch(0)").row("watching(0, #)", 3, 1, 0)
                .given("add(0, 1, 1)")
                .due(0, "watch(0)").row("watching(0, #)", 4, 2, 0)
                // What it has read it knows, though the entry is gone since.
                .given("prune(0, 4)")
                .due(0, "watch(0)").row("watching(0, #)", 4, 2, 0)
                // One that goes before it is read is gone over and not read.
                .given("add(0, 2, 1) add(0, 5, 1) prune(0, 6)")
                .due(1, "watch(0)").row("watching(0, #)", 6, 2, 0)
                .given("watcher(0, 0, 0, 9)")
                .due(1, "watch(0)").row("watching(0, #)", 6, 1, 0);
        Edge.promise(29, "It reads all entries that are new to it").given(Houses.FULL_LOG)
                .given("watcher(7, 0, MIN, MAX)")
                .due(0, "watch(7)").row("watching(7, #)", 400, 400, 0)
                .given("hide(0, 399)").due(1, "watch(7)");
    }

    private static void promise29WatchAsks() {
        Edge.promise(29, "and asks for the LATEST of each of its KEYS that it has read: of how many that is not the "
                + "entry that it has read last of this KEY (NONE, too; at the LOG's count now; each time anew).")
                .given("open(0) watcher(0, 0, 1, 3) add(0, 1, 1) add(0, 2, 1) add(0, 4, 1)")
                .due(0, "watch(0)")
                .given("hide(0, 1)").due(1, "watch(0)").due(1, "watch(0)")
                .given("lag(0, 2)").due(1, "watch(0)")
                .given("add(0, 2, 1)").due(2, "watch(0)").due(2, "watch(0)")
                // Its KEY, but not read; read, but not its KEY.
                .given("hide(0, 3) hide(0, 4)").due(2, "watch(0)")
                .given("add(0, 4, 1)").due(2, "watch(0)")
                .given("add(0, 3, 1)").due(3, "watch(0)")
                .row("watching(0, #)", 6, 3, 0);
        Edge.promise(29, "at the LOG's count now; each time anew")
                .given("open(0) lag(0, 1) add(0, 1, 1) watcher(0, 0, 1, 1)")
                .due(1, "watch(0)")
                .given("image() watcher(1, 0, 1, 1)").due(1, "watch(1)")
                .given("back()").due(1, "watch(0)").due(NONE, "watch(1)");
    }

    private static void promise29WatchNone() {
        Edge.promise(29, "NONE: there is no such WATCHER.").given(HOUSE)
                .refused("watch(#)", NO_WATCHERS)
                .refused("watch(#)", UNSET);
    }

    private static void promise30Watching() {
        Edge.promise(30, "Of a WATCHER, what 0: how many entries it has gone over, 1: its KEYS that it has read, 2: "
                + "its LOG.")
                .given(HOUSE)
                .row("watching(0, #)", 5, 2, 0)
                .row("watching(5, #)", 0, 0, 1)
                .row("watching(6, #)", 2, 2, 2)
                .due(1, "watch(0)").row("watching(0, #)", 6, 2, 0)
                .due(1, "watch(5)").row("watching(5, #)", 6, 5, 1);
        Edge.promise(30, "NONE: there is none such, or another what.").given(HOUSE)
                .refused("watching(#, 0)", NO_WATCHERS)
                .refused("watching(#, 0)", UNSET)
                .refused("watching(#, 2)", UNSET)
                .refused("watching(0, #)", "-1 3 4 MIN MAX")
                .refused("watching(7, #)", "-1 1 3");
    }
}

/** Edges of promises 1 to 11: a new object, open, add, fork, hide, lag, prune, keep, count, latest, head. */
final class LogEdges {
    private static final int NONE = GlassLog.NONE;
    private static final String HOUSE = Houses.HOUSE;
    private static final String NO_LOGS = Houses.NO_LOGS;
    /** No count of LOG 0 in HOUSE, which has 6 entries. */
    private static final String NO_COUNTS = "-1 7 400 MIN MAX";

    private LogEdges() { }

    static void run() {
        promise1NewObject();
        promise2Open();
        promise3Add();
        promise4Fork();
        promise4ForkRefused();
        promise5Hide();
        promise5HideRefused();
        promise6Lag();
        promise6LagRefused();
        promise7Prune();
        promise7SumsStay();
        promise8Keep();
        promise9Count();
        promise10Latest();
        promise11Head();
    }

    private static void promise1NewObject() {
        Edge.promise(1, "No LOG")
                .row("all(#)", 0, 0, 0, 0, 0)
                .refused("add(0, 1, 1) fork(0, 0) hide(0, 1) lag(0, 1) prune(0, 0) keep(0, 0) latest(0, 0, 1)")
                .refused("count(0, #)", "0 1 2 3 4 5")
                .stays(0, "head(0, 0, 0, 0) head(0, 0, 1, 0) head(0, 0, 2, 0)")
                .refused("within(0, 0, 0, 0) grown(0, 0, 0, 0) held(0, 0, 0, 0) absent(0, 0, 0, 0) span(0, 0, 0, 0, 0)")
                .refused("take(0, 0, 0) watcher(0, 0, 0, 0)");
        Edge.promise(1, "nothing in SLOTS")
                .dues(0, Calls.times(16, "drop(#)"))
                .row("proof(0, #)", 0, 0, 0, 0, 0, 0, 0, 0)
                .row("proof(15, #)", 0, 0, 0, 0, 0, 0, 0, 0)
                .stays(0, "drop(0) drop(15) step(0, 0, 0) step(15, 0, 7)")
                .refused("bend(0, 0, 0, 1) bend(15, 0, 0, 1) forge(0, 0, 1, 1) forge(15, 0, 1, 1)")
                .refused("check(0, 0, 0) check(15, 11, 0)");
        Edge.promise(1, "no HEADS")
                .dues(NONE, Calls.times(12, "reader(#, 0)") + Calls.times(12, "reader(#, 1)"))
                .dues(NONE, Calls.times(12, "reader(#, 2)"))
                .dues(0, Calls.times(12, "reader(#, 3)"))
                .refused("talk(0, 1) talk(11, 0) blame(0, 0) smear(0, 0, 1)");
        Edge.promise(1, "no WATCHERS.")
                .dues(NONE, Calls.times(8, "watch(#)") + Calls.times(8, "watching(#, 0)"))
                .refused("watch(0) watch(7) watching(0, 0) watching(7, 2) back()");
    }

    private static void promise2Open() {
        Edge.promise(2, "A LOG of a KEEPER, empty: its number.")
                .due(0, "open(0)").due(1, "open(3)").due(2, "open(1)").due(3, "open(2)").due(4, "open(3)")
                .due(5, "open(0)")
                .row("count(#, 2)", 0, 3, 1, 2, 3, 0)
                .row("count(0, #)", 0, 0, 0, 0, 0, 0)
                .row("count(1, #)", 0, 0, 3, 0, 0, 0)
                .row("count(5, #)", 0, 0, 0, 0, 0, 0)
                .row("all(#)", 6, 0, 0, 0, 0)
                .due(1, "add(5, 1, 1)")
                .row("count(#, 0)", 0, 0, 0, 0, 0, 1);
        Edge.promise(2, "A LOG of a KEEPER, empty: its number.").given(HOUSE)
                .due(3, "open(0)")
                .row("count(3, #)", 0, 0, 0, 0, 0, 0);
        Edge.promise(2, "Refused: no such KEEPER")
                .refused("open(#)", "-1 4 5 MIN MAX")
                .given(HOUSE)
                .refused("open(#)", "-1 4 5 MIN MAX");
        Edge.promise(2, "6 LOGS.")
                .given("open(3) open(3) open(3) open(3) open(3)")
                .due(5, "open(3)")
                .refused("open(#)", "0 1 2 3 4 -1");
        Edge.promise(2, "6 LOGS.").given(Houses.SIX_LOGS).refused("open(#)", "0 1 2 3 4");
    }

    private static void promise3Add() {
        Edge.promise(3, "An ENTRY comes behind a LOG's: how many it has.")
                .given("open(0) open(1)")
                .due(1, "add(0, MIN, MIN)").due(2, "add(0, MAX, MAX)").due(3, "add(0, 0, 0)").due(4, "add(0, -1, -1)")
                .due(5, "add(0, MIN, 0)")
                .due(4, "latest(0, 5, MIN)").due(1, "latest(0, 5, MAX)").due(2, "latest(0, 5, 0)")
                .due(3, "latest(0, 5, -1)")
                .due(1, "add(1, 0, 0)")
                .due(5, "count(0, 0)")
                .due(5, "prune(0, 5)")
                .due(6, "add(0, 0, 0)")
                .due(5, "latest(0, 6, 0)");
        Edge.promise(3, "Refused: no such LOG").given(HOUSE)
                .refused("add(#, 1, 1)", NO_LOGS)
                .given("open(0) open(0) open(0)")
                .refused("add(#, 1, 1)", "-1 6 MIN MAX");
        Edge.promise(3, "400 entries.")
                .given("open(0) " + Calls.times(398, "add(0, #, 1)"))
                .due(399, "add(0, 7, 1)").due(400, "add(0, 8, 1)")
                .refused("add(0, 7, 1) add(0, 1000, 1)")
                .due(400, "count(0, 0)")
                .due(1, "open(0)").due(1, "add(1, 1, 1)");
        Edge.promise(3, "400 entries.").given(Houses.FULL_LOG)
                .due(1, "fork(0, 400)").due(2, "fork(0, 399)").due(400, "add(2, 1, 1)")
                .refused("add(0, 1, 1) add(1, 1, 1) add(2, 1, 1)")
                .due(400, "prune(0, 400)")
                .refused("add(0, 1, 1)");
        // A KEY of the face that it was forked from takes no place in it.
        Edge.promise(3, "400 entries.")
                .given("open(0) add(0, -5, 1) fork(0, 0) " + Calls.times(399, "add(1, #, 1)"))
                .due(400, "add(1, 399, 1)").due(400, "count(1, 3)").due(399, "latest(1, 400, 399)")
                .refused("add(1, 400, 1)");
    }

    private static void promise4Fork() {
        Edge.promise(4, "Another face: a LOG of the same KEEPER that has the first n entries of this one").given(HOUSE)
                .due(3, "fork(0, 0)")
                .row("count(3, #)", 0, 0, 1, 0, 0, 0)
                .due(4, "fork(0, 6)")
                .row("count(4, #)", 6, 2, 1, 2, 1, 0)
                .like("head(4, 6, 2, 0)", "head(0, 6, 2, 0)")
                .like("head(4, 3, 2, 7)", "head(0, 3, 2, 7)")
                .due(7, "add(4, 2, 1)").due(6, "count(0, 0)")
                .due(7, "add(0, 3, 1)").due(8, "add(0, 3, 1)").due(7, "count(4, 0)")
                .due(2, "latest(4, 7, 3)").due(7, "latest(0, 8, 3)")
                .due(5, "fork(2, 1)")
                .row("count(5, #)", 1, 0, 3, 1, 0, 0);
        // Entry 0 is kept and entries 1 and 2 are gone in LOG 0, so they are so in what has them of it.
        Edge.promise(4, "has the first n entries of this one").given(HOUSE)
                .due(3, "fork(0, 2)").due(1, "count(3, 1)")
                .refused("within(0, 3, 2, 1) keep(3, 1)")
                .due(0, "prune(3, 2)")
                .due(4, "fork(3, 1)").due(0, "count(4, 1)").due(0, "prune(4, 1)");
        Edge.promise(4, "(what is HIDDEN or LAGS there since n or earlier, too): its number.")
                .given("open(0) hide(0, 9) add(0, 1, 1) add(0, 2, 1) hide(0, 1) lag(0, 2) add(0, 3, 1) add(0, 2, 1)")
                .due(1, "fork(0, 0)").due(2, "fork(0, 1)").due(3, "fork(0, 2)").due(4, "fork(0, 3)")
                .due(5, "fork(0, 4)")
                .row("count(#, 4)", 2, 1, 1, 2, 2, 2)
                .row("count(#, 5)", 1, 0, 0, 1, 1, 1)
                .row("count(#, 3)", 2, 0, 1, 1, 2, 2)
                .due(0, "latest(2, 1, 1)").due(NONE, "latest(3, 2, 1)")
                .due(3, "add(3, 2, 1)").due(1, "latest(3, 3, 2)")
                .due(2, "add(2, 2, 1)").due(3, "add(2, 2, 1)").due(2, "latest(2, 3, 2)")
                .refused("hide(1, 9) hide(3, 1) lag(3, 2) hide(5, 2)")
                .due(1, "hide(2, 1)").due(1, "lag(2, 2)");
    }

    private static void promise4ForkRefused() {
        Edge.promise(4, "Refused: no such LOG, n;").given(HOUSE)
                .refused("fork(#, 0)", NO_LOGS)
                .refused("fork(0, #)", NO_COUNTS)
                .refused("fork(2, 3) fork(2, -1)")
                .given("open(0)")
                .refused("fork(3, 1) fork(3, -1)");
        Edge.promise(4, "6 LOGS.").given(HOUSE)
                .given("open(0) open(0)")
                .due(5, "fork(0, 1)")
                .refused("fork(#, 0)", "0 1 2 3 4 5 6")
                .refused("fork(0, 6)");
        Edge.promise(4, "6 LOGS.").given(Houses.FULL_LOG)
                .given(Calls.times(5, "fork(0, 400)"))
                .refused("fork(0, 0) fork(5, 400)");
    }

    private static void promise5Hide() {
        Edge.promise(5, "The KEY is HIDDEN in a LOG's MAP since now (a count): true.")
                .given("open(0)")
                .due(1, "hide(0, 5)")
                .given("add(0, 5, 1)")
                .due(NONE, "latest(0, 0, 5)").due(NONE, "latest(0, 1, 5)").due(0, "count(0, 3)").due(1, "count(0, 4)")
                .given("add(0, 6, 1) add(0, 7, 1)")
                .due(1, "hide(0, 6)")
                .given("add(0, 6, 1)")
                .due(NONE, "latest(0, 1, 6)").due(1, "latest(0, 2, 6)")
                .due(NONE, "latest(0, 3, 6)").due(NONE, "latest(0, 4, 6)")
                .due(2, "latest(0, 4, 7)")
                .due(1, "count(0, 3)");
        Edge.promise(5, "The KEY is HIDDEN in a LOG's MAP since now (a count): true.")
                .given("open(0) add(0, MIN, 1) add(0, MAX, 1) add(0, 0, 1) add(0, -1, 1)")
                .due(1, "hide(0, MIN)").due(1, "hide(0, MAX)").due(1, "hide(0, 0)").due(1, "hide(0, -1)")
                .due(4, "count(0, 4)").due(0, "count(0, 3)")
                .dues(0, Calls.times(8, "head(0, 4, 1, #)"))
                .unlike("head(0, 3, 1, 0)", "head(0, 4, 1, 0)");
    }

    private static void promise5HideRefused() {
        Edge.promise(5, "Refused: no such LOG;").given(HOUSE).refused("hide(#, 1)", NO_LOGS);
        Edge.promise(5, "it is HIDDEN, or LAGS;").given(HOUSE)
                .refused("hide(0, 2) hide(1, 3)")
                .due(1, "hide(1, 2)").due(1, "hide(0, 3)")
                .refused("hide(1, 2) hide(0, 3) hide(0, 2) hide(1, 3)")
                .due(1, "hide(2, 0)")
                .refused("hide(2, 0)");
        Edge.promise(5, "100 are, in this LOG.")
                .given("open(0) open(0) add(0, 100, 1) " + Calls.times(99, "hide(0, #)"))
                .due(1, "hide(0, 99)")
                .refused("hide(0, 100) hide(0, -1) hide(0, 0)")
                .due(100, "count(0, 4)").due(0, "latest(0, 1, 100)")
                .due(1, "hide(1, 100)");
        Edge.promise(5, "100 are, in this LOG.")
                .given("open(0) " + Calls.times(99, "lag(0, #)"))
                .due(1, "hide(0, 99)")
                .refused("hide(0, 100)")
                .row("count(0, #)", 0, 0, 0, 0, 1, 99);
        Edge.promise(5, "100 are, in this LOG.")
                .given("open(0) " + Calls.times(99, "hide(0, #)") + "add(0, 500, 1) hide(0, 99) fork(0, 1) fork(0, 0)")
                .refused("hide(1, 100)")
                .due(1, "hide(2, 100)")
                .refused("hide(2, 101)");
    }

    private static void promise6Lag() {
        Edge.promise(6, "The KEY LAGS in a LOG's MAP since now: true.")
                .given("open(0)")
                .due(1, "lag(0, 5)")
                .given("add(0, 5, 1)")
                .due(NONE, "latest(0, 0, 5)").due(NONE, "latest(0, 1, 5)").due(0, "count(0, 3)").due(1, "count(0, 5)")
                .given("add(0, 6, 1) add(0, 6, 1) add(0, 7, 1)")
                .due(1, "lag(0, 6)")
                .given("add(0, 6, 1)")
                .due(NONE, "latest(0, 1, 6)").due(1, "latest(0, 2, 6)").due(2, "latest(0, 3, 6)")
                .due(2, "latest(0, 4, 6)").due(2, "latest(0, 5, 6)")
                .due(2, "count(0, 3)")
                .due(1, "lag(0, 7)").due(3, "latest(0, 5, 7)")
                .given("add(0, 7, 1)")
                .due(3, "latest(0, 6, 7)");
        Edge.promise(6, "The KEY LAGS in a LOG's MAP since now: true.")
                .given("open(0) add(0, MIN, 1) add(0, 0, 1)")
                .due(1, "lag(0, MIN)").due(1, "lag(0, MAX)").due(1, "lag(0, 0)")
                .given("add(0, MIN, 1) add(0, MAX, 1) add(0, 0, 1)")
                .due(0, "latest(0, 5, MIN)").due(NONE, "latest(0, 5, MAX)").due(1, "latest(0, 5, 0)")
                .row("count(0, #)", 5, 0, 0, 2, 0, 3);
    }

    private static void promise6LagRefused() {
        Edge.promise(6, "Refused likewise.").given(HOUSE)
                .refused("lag(#, 1)", NO_LOGS)
                .refused("lag(0, 2) lag(1, 3)")
                .due(1, "lag(1, 2)").due(1, "lag(0, 3)")
                .refused("lag(1, 2) lag(0, 3) lag(0, 2) lag(1, 3)");
        Edge.promise(6, "Refused likewise.")
                .given("open(0) open(0) add(0, 100, 1) " + Calls.times(99, "lag(0, #)"))
                .due(1, "lag(0, 99)")
                .refused("lag(0, 100) lag(0, -1) lag(0, 0) hide(0, 100)")
                .due(100, "count(0, 5)")
                .due(1, "lag(1, 100)");
        Edge.promise(6, "Refused likewise.")
                .given("open(0) " + Calls.times(99, "hide(0, #)"))
                .due(1, "lag(0, 99)")
                .refused("lag(0, 100)")
                .row("count(0, #)", 0, 0, 0, 0, 99, 1);
    }

    private static void promise7Prune() {
        Edge.promise(7, "Entries ahead of n are gone, but those that keep() told (ahead of this): how many went.")
                .given("open(0)")
                .stays(0, "prune(0, 0)")
                .given("add(0, 1, 1) add(0, 2, 1) add(0, 3, 1) add(0, 4, 1) add(0, 5, 1) add(0, 6, 1) keep(0, 2)")
                .stays(0, "prune(0, 0)")
                .due(1, "prune(0, 1)").due(1, "count(0, 1)")
                .due(2, "prune(0, 4)").due(3, "count(0, 1)")
                .stays(0, "prune(0, 4) prune(0, 1) prune(0, 0)")
                .refused("within(0, 0, 6, #)", "0 1 3")
                .due(3, "within(0, 0, 6, 2)").due(2, "within(1, 0, 6, 4)")
                .due(1, "keep(0, 4)")
                .due(1, "prune(0, 6)")
                .row("count(0, #)", 6, 4, 0, 6, 0, 0)
                .stays(0, "prune(0, 6)")
                .given("add(0, 1, 1)")
                .due(1, "prune(0, 7)").due(5, "count(0, 1)");
        Edge.promise(7, "how many went.").given(Houses.FULL_LOG)
                .due(399, "prune(0, 399)").due(1, "prune(0, 400)").due(0, "prune(0, 400)").due(400, "count(0, 1)");
        Edge.promise(7, "Refused: no such LOG, n.").given(HOUSE)
                .refused("prune(#, 0)", NO_LOGS)
                .refused("prune(0, #)", NO_COUNTS)
                .refused("prune(2, 3) prune(2, -1)");
    }

    private static void promise7SumsStay() {
        Edge.promise(7, "What hangs on their KEY or VALUE can't be shown any more (WITHIN, SPAN); SUMS stay.")
                .given("open(0) add(0, 1, 1) add(0, 2, 1) add(0, 3, 1) add(0, 2, 1) keep(0, 1)")
                .given("within(0, 0, 4, 0) span(1, 0, 4, 0, 4) take(0, 0, 4) take(1, 0, 3) fork(0, 4)")
                .due(3, "prune(0, 4)")
                .refused("within(2, 0, 4, #)", "0 2 3")
                .refused("within(2, 0, 1, 0) span(2, 0, 4, 0, 4) span(2, 0, 4, 0, 1) span(2, 0, 4, 0, 2) "
                        + "span(2, 0, 4, 1, 3)")
                .like("head(0, 4, 2, 0)", "head(1, 4, 2, 0)").like("head(0, 3, 2, 7)", "head(1, 3, 2, 7)")
                .due(1, "take(0, 0, 4)")
                .due(1, "check(0, 0, 0)").due(1, "check(1, 0, 0)")
                .due(2, "within(2, 0, 4, 1)").due(1, "check(2, 0, 0)")
                .due(2, "span(2, 0, 4, 1, 2)").due(1, "check(2, 0, 0)")
                .due(3, "grown(2, 0, 3, 4)").due(1, "check(2, 1, 0)")
                .due(3, "latest(0, 4, 2)").due(2, "latest(0, 4, 3)").due(3, "count(0, 3)")
                .given("held(2, 0, 4, 3)").due(1, "check(2, 0, 0)")
                .given("absent(2, 0, 4, 9)").due(1, "check(2, 0, 0)")
                .due(0, "count(1, 1)").due(2, "within(2, 1, 4, 0)");
    }

    private static void promise8Keep() {
        Edge.promise(8, "Entry i is kept when others are pruned: true.")
                .given("open(0) add(0, 1, 1) add(0, 2, 1) add(0, 3, 1) add(0, 4, 1)")
                .due(1, "keep(0, 0)").due(1, "keep(0, 3)").due(1, "keep(0, 3)")
                .due(2, "prune(0, 4)")
                .due(2, "within(0, 0, 4, 0)").due(2, "within(1, 0, 4, 3)")
                .stays(1, "keep(0, 0) keep(0, 3)")
                .stays(0, "prune(0, 4)");
        Edge.promise(8, "Entry i is kept when others are pruned: true.").given(Houses.FULL_LOG)
                .due(1, "keep(0, 399)").due(399, "prune(0, 400)").due(1, "keep(0, 399)")
                .refused("keep(0, 400) keep(0, 398) keep(0, -1)");
        Edge.promise(8, "Refused: no such LOG, entry, or it is gone.").given(HOUSE)
                .refused("keep(#, 0)", NO_LOGS)
                .refused("keep(0, #)", "-1 6 7 400 MIN MAX")
                .refused("keep(2, 2)")
                .refused("keep(0, 1) keep(0, 2)")
                .given("open(0)")
                .refused("keep(3, 0) keep(3, -1)");
    }

    private static void promise9Count() {
        Edge.promise(9, "What 0: how many entries a LOG has, 1: that are gone, 2: its KEEPER, 3: KEYS in its MAP "
                + "now, 4: that are HIDDEN, 5: that LAG.").given(HOUSE)
                .row("count(0, #)", 6, 2, 1, 2, 1, 0)
                .row("count(1, #)", 6, 0, 1, 5, 0, 1)
                .row("count(2, #)", 2, 0, 3, 2, 0, 0)
                // A KEY that is HIDDEN or LAGS counts though the LOG has no entry of it.
                .given("hide(2, 100) lag(2, 101) lag(2, 102)")
                .row("count(2, #)", 2, 0, 3, 2, 1, 2);
        Edge.promise(9, "3: KEYS in its MAP now").given(Houses.FULL_LOG)
                .row("count(0, #)", 400, 0, 0, 400, 0, 0)
                .given("prune(0, 400) hide(0, 0)")
                .row("count(0, #)", 400, 400, 0, 399, 1, 0);
        Edge.promise(9, "NONE: no such LOG, another what.").given(HOUSE)
                .refused("count(#, 0)", NO_LOGS)
                .refused("count(3, #)", "1 2 3 4 5")
                .refused("count(0, #)", "-1 6 7 MIN MAX");
    }

    private static void promise10Latest() {
        Edge.promise(10, "The LATEST of a KEY in a LOG's MAP at a count n;").given(HOUSE)
                .due(0, "latest(0, 1, 1)").due(0, "latest(0, 3, 1)").due(3, "latest(0, 4, 1)").due(3, "latest(0, 6, 1)")
                .due(1, "latest(0, 4, 2)")
                .due(2, "latest(1, 5, 3)").due(2, "latest(1, 6, 3)")
                .due(1, "latest(2, 2, -7)");
        Edge.promise(10, "The LATEST of a KEY in a LOG's MAP at a count n;").given(Houses.FULL_LOG)
                .due(0, "latest(0, 400, 0)").due(399, "latest(0, 400, 399)").due(NONE, "latest(0, 399, 399)");
        Edge.promise(10, "NONE without one, or without such a LOG, n.").given(HOUSE)
                .refused("latest(0, 0, 1) latest(0, 1, 2) latest(0, 5, 2) latest(0, 6, 2) latest(0, 6, 8)")
                .refused("latest(0, 6, #)", "0 -1 MIN MAX")
                .refused("latest(2, 1, -7)")
                .refused("latest(#, 0, 1)", NO_LOGS)
                .refused("latest(#, 1, 1)", NO_LOGS)
                .refused("latest(0, #, 1)", NO_COUNTS)
                .refused("latest(2, 3, 5)");
    }

    private static void promise11Head() {
        int[] first = Model.sum(new Model.Entry(1, 10));
        int[] leaf = Model.mix(5, 1, 0);
        int[] mark = Model.mix(Model.words(6, new int[] {1, 1000080, 1}, first, leaf));
        Edge.promise(11, "Int j (0 .. 7) of a HEAD of a LOG at a count n, what 0: TOP, 1: TREE, 2: MARK;").given(HOUSE)
                .sum("head(0, 1, 0, #)", first)
                .sum("head(0, 1, 1, #)", leaf)
                .sum("head(0, 1, 2, #)", mark)
                .sum("head(1, 1, 2, #)", mark)
                .sum("head(0, 0, 0, #)", new int[8])
                .sum("head(0, 0, 1, #)", new int[8]);
        Edge.promise(11, "0 if there is none such.").given(HOUSE)
                .stays(0, "head(#, 0, 2, 0)", NO_LOGS)
                .stays(0, "head(#, 1, 0, 0)", NO_LOGS)
                .stays(0, "head(0, #, 0, 0)", NO_COUNTS)
                .stays(0, "head(0, #, 1, 0)", NO_COUNTS)
                .stays(0, "head(0, #, 2, 0)", NO_COUNTS)
                .stays(0, "head(0, 6, #, 0)", "-1 3 4 MIN MAX")
                .stays(0, "head(0, 6, 0, #)", "-1 8 MIN MAX")
                .stays(0, "head(0, 6, 1, #)", "-1 8 MIN MAX")
                .stays(0, "head(0, 6, 2, #)", "-1 8 MIN MAX")
                .stays(0, "head(2, 3, 2, 0)");
    }
}

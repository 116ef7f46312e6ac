/** What the document says ahead of its face, terms and promises: what it is, and for how many calls. */
final class AheadEdges {
    /** HOUSE with a LOG 0 of 400 entries, and looks up to the call ahead of the last one. */
    private static final String ALL_BUT_ONE = allButOne();

    private AheadEdges() { }

    static void run() {
        whatItIsOfRows();
        whatItIsOfProofs();
        whatItIsOfReaders();
        theLastCallOfLogs();
        theLastCallOfProofs();
        theLastCallOfReaders();
        theLastCallOfWatchersAndTheHouse();
    }

    private static String allButOne() {
        String calls = Houses.HOUSE + Calls.times(6, 400, "add(0, #, #)");
        return calls + Calls.times(Seen.MOST_CALLS - 1 - Calls.split(calls).size(), "all(#)");
    }

    private static void whatItIsOfRows() {
        Edge.ahead("A log that everyone may doubt and no one has to believe: rows of entries that only grow,")
                .given("open(0) add(0, 7, 70) add(0, 8, 80) add(0, 7, 71) take(0, 0, 3)")
                .given("hide(0, 8) lag(0, 7) keep(0, 1) prune(0, 3) fork(0, 1) add(1, 9, 90) take(0, 1, 2)")
                .due(3, "count(0, 0)").due(2, "count(1, 0)")
                .given("add(0, 7, 72)")
                .due(4, "count(0, 0)").due(2, "count(1, 0)").due(6, "all(4)");
    }

    private static void whatItIsOfProofs() {
        String rows = "open(2) add(0, 7, 70) add(0, 8, 80) add(0, 7, 71) add(0, 9, 90) take(0, 0, 2) take(1, 0, 4) ";
        Edge.ahead("with sums that prove to strangers what stands in them,").given(rows)
                .due(2, "within(0, 0, 4, 2)").due(1, "check(0, 1, 1)")
                .due(1, "span(1, 0, 4, 0, 2)").due(1, "check(1, 1, 1)")
                .due(1, "forge(0, 0, 7, 72)").due(0, "check(0, 1, 1)")
                .due(1, "forge(1, 1, 8, 81)").due(0, "check(1, 1, 1)");
        Edge.ahead("that a newer row begins with an older one,").given(rows)
                .due(2, "grown(0, 0, 2, 4)").due(1, "check(0, 0, 1)").due(0, "check(0, 1, 0)")
                .due(1, "bend(0, 0, 0, 1)").due(0, "check(0, 0, 1)");
        Edge.ahead("which entry of a key is the latest, that there is none;").given(rows)
                .given("held(0, 0, 4, 7) absent(1, 0, 4, 10)")
                .due(2, "proof(0, 6)").dues(1, "check(0, 1, 0) check(1, 1, 0)").dues(0, "check(0, 0, 0) check(1, 0, 0)")
                .given("bend(0, 0, 7, 4) bend(1, 0, 7, 4)").dues(0, "check(0, 1, 0) check(1, 1, 0)");
    }

    private static void whatItIsOfReaders() {
        Edge.ahead("readers who keep one head and talk, keepers who show two faces,").given(Houses.TWO_FACES)
                .dues(1, "take(0, 0, 2) take(1, 0, 4) take(2, 1, 4) talk(0, 1)").due(4, "reader(0, 0)")
                .dues(0, "talk(1, 2) talk(2, 0)");
        Edge.ahead("watchers of keys,").given("open(0) add(0, 3, 1) add(0, 4, 1) watcher(0, 0, 4, 5)")
                .due(0, "watch(0)").given("hide(0, 3)").due(0, "watch(0)").given("hide(0, 4)").due(1, "watch(0)");
        Edge.ahead("blame that any third one can look at.").given(Houses.TWO_FACES)
                .given("take(0, 0, 4) take(1, 1, 3) talk(0, 1)")
                .row("blame(0, #)", 4, 3, 1, 1)
                .like("blame(0, 4)", "head(0, 4, 0, 0)").like("blame(0, 5)", "head(1, 3, 0, 0)")
                .like("blame(0, 6)", "head(0, 4, 1, 0)").like("blame(0, 7)", "head(1, 3, 1, 0)");
    }

    /** The call is the 512th of its object, and it is promised still. */
    private static Edge last() {
        return Edge.ahead("An object is used for at most 512 calls after it has been made; what later calls answer is "
                + "free.").given(ALL_BUT_ONE);
    }

    private static void theLastCallOfLogs() {
        last().due(3, "open(2)");
        last().due(GlassLog.NONE, "add(0, 5, 5)");
        last().due(7, "add(1, 5, 5)");
        last().due(3, "fork(0, 400)");
        last().due(1, "hide(0, 1)");
        last().due(1, "lag(1, 9)");
        last().due(397, "prune(0, 400)");
        last().due(1, "keep(0, 399)");
        last().due(396, "count(0, 3)");
        last().due(399, "latest(0, 400, 399)");
        last().given("head(0, 400, 0, 7)");
        last().given("head(0, 400, 1, 7)");
        last().given("head(0, 400, 2, 7)");
    }

    private static void theLastCallOfProofs() {
        last().due(6, "within(0, 0, 400, 399)");
        last().due(7, "grown(0, 0, 399, 400)");
        last().given("held(0, 0, 400, 399)");
        last().given("absent(0, 0, 400, 400)");
        last().due(4, "span(0, 0, 400, 360, 400)");
        last().due(5, "drop(4)");
        last().due(5, "proof(4, 0)");
        last().given("step(0, 2, 7)");
        last().due(1, "bend(0, 2, 7, 1)");
        last().due(1, "forge(0, 0, 9, 9)");
        last().due(1, "check(0, 0, 0)");
    }

    private static void theLastCallOfReaders() {
        last().due(1, "take(0, 0, 400)");
        last().due(0, "take(2, 0, 400)");
        last().due(1, "talk(1, 2)");
        last().due(0, "talk(0, 2)");
        last().due(2, "reader(0, 3)");
        last().due(1, "blame(1, 2)");
        last().due(1, "smear(0, 0, 1)");
    }

    private static void theLastCallOfWatchersAndTheHouse() {
        last().due(1, "watcher(7, 0, 0, 9)");
        last().due(1, "watch(0)");
        last().due(5, "watching(0, 0)");
        last().due(408, "all(4)");
        last().due(1, "image()");
        last().due(1, "back()");
    }
}

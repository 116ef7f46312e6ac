/** Edges of promises 31 to 33: all, image, back. */
final class HouseEdges {
    private static final int NONE = GlassLog.NONE;
    private static final String HOUSE = Houses.HOUSE;

    private HouseEdges() { }

    static void run() {
        promise31All();
        promise32Image();
        promise33Back();
        promise33BackUndoesEachCall();
        promise33BackAndOn();
        promise33BackToFull();
        promise33BackWithoutImage();
    }

    private static void promise31All() {
        Edge.promise(31, "What 0: LOGS, 1: SLOTS that are not empty, 2: READERS with a HEAD, 3: BLAMES, 4: all "
                + "entries.")
                .row("all(#)", 0, 0, 0, 0, 0)
                .given(HOUSE)
                .row("all(#)", 3, 6, 4, 2, 14)
                .given("prune(0, 6) drop(0) drop(0) take(0, 2, 0)")
                .row("all(#)", 3, 5, 4, 2, 14);
        Edge.promise(31, "What 0: LOGS, 1: SLOTS that are not empty, 2: READERS with a HEAD").given(Houses.FULL_LOG)
                .given(Calls.times(5, "fork(0, 400)"))
                .given(Calls.times(16, "grown(#, 0, #, 400)") + Calls.times(12, "take(#, 0, #)"))
                .row("all(#)", 6, 16, 12, 0, 2400);
        Edge.promise(31, "3: BLAMES").given(Houses.BLAMES)
                .row("all(#)", 2, 0, 1, 60, 8)
                .given("take(0, 1, 4)").due(60, "all(3)");
        Edge.promise(31, "NONE for another what.").given(HOUSE).refused("all(#)", "-1 5 6 MIN MAX");
    }

    private static void promise32Image() {
        Edge.promise(32, "All is kept as it is: true.")
                .due(1, "image()")
                .given(HOUSE)
                .due(1, "image()").due(1, "image()")
                .row("all(#)", 3, 6, 4, 2, 14)
                .stays(1, "image() back()");
    }

    private static void promise33Back() {
        String words = "All is as it was at the latest image(): true;";
        Edge.promise(33, words)
                .given("image() " + HOUSE.replace("image() ", ""))
                .due(1, "back()").row("all(#)", 0, 0, 0, 0, 0)
                .refused("add(0, 1, 1) watch(0) watch(5) reader(0, 0) blame(0, 0) check(0, 0, 0) count(0, 0)")
                .stays(1, "back()")
                .due(0, "open(2)").row("count(0, #)", 0, 0, 2, 0, 0, 0)
                .due(1, "add(0, 2, 5)").due(0, "latest(0, 1, 2)").due(1, "take(0, 0, 1)")
                .row("reader(0, #)", 1, 0, 2, 0);
        Edge.promise(33, words).given("open(0) image() add(0, 1, 1) image() add(0, 2, 1)")
                .due(1, "back()").due(1, "count(0, 0)")
                .due(1, "back()").due(1, "count(0, 0)")
                .due(2, "add(0, 3, 1)").due(NONE, "latest(0, 2, 2)").due(1, "latest(0, 2, 3)")
                .due(1, "image()").due(1, "prune(0, 1)").due(1, "back()").due(0, "count(0, 1)").due(2, "count(0, 0)");
        // The image of HOUSE is of its earlier state.
        Edge.promise(33, words).given(HOUSE)
                .due(1, "back()")
                .row("all(#)", 3, 1, 2, 0, 12)
                .row("count(0, #)", 5, 0, 1, 2, 1, 0)
                .row("proof(9, #)", 1, 3, 5, 0, 0, 1, 0, 0)
                .row("reader(#, 3)", 0, 0, 0, 0)
                .row("watching(6, #)", 2, 2, 2)
                .refused("watch(0) watch(5) blame(0, 0) reader(2, 0)")
                .stays(1, "back() image()")
                .due(5, "prune(0, 5)");
    }

    private static void promise33BackUndoesEachCall() {
        Edge.promise(33, "All is as it was at the latest image()").given(HOUSE + "image()")
                .undone(3, "open(0) fork(0, 3) fork(1, 6)")
                .undone(7, "add(0, 1, 1) add(0, 77, 1) add(1, 1, 1)")
                .undone(1, "hide(0, 1) hide(2, 77) lag(1, 9) lag(0, 3)")
                .undone(3, "prune(0, 6)").undone(1, "prune(0, 4)").undone(1, "keep(0, 3) keep(1, 0)")
                .undone(2, "within(0, 1, 6, 5) within(15, 1, 6, 5)")
                .undone(3, "grown(0, 1, 5, 6) grown(15, 1, 5, 6)")
                .undone(1, "held(0, 0, 6, 1) absent(0, 0, 6, 2) absent(15, 0, 6, 2)")
                .undone(2, "span(0, 0, 6, 3, 6) span(15, 0, 6, 3, 6)")
                .undone(1, "drop(0)").undone(5, "drop(4)")
                .undone(1, "bend(0, 2, 7, 1) bend(1, 0, 0, 1) forge(0, 0, 9, 9) forge(0, 0, 1, 9) forge(4, 2, 8, 9)")
                .undone(1, "take(1, 1, 3) take(0, 0, 6) take(0, 2, 0) take(4, 0, 0) take(11, 2, 2)")
                .undone(1, "talk(1, 2)").undone(0, "talk(0, 2) take(0, 1, 5)")
                .undone(1, "smear(0, 0, 1) smear(1, 7, MIN)")
                .undone(1, "watcher(0, 0, 0, 9) watcher(0, 0, 0, 1) watcher(0, 0, 3, 9) watcher(5, 1, 9, 9)")
                .undone(1, "watcher(5, 0, 0, 9) watcher(6, 1, -10, 10) watcher(7, 0, 0, 9)")
                .undone(1, "watch(0) watch(5)");
    }

    /** What comes anew behind back() has nothing of what stood in its place. */
    private static void promise33BackAndOn() {
        String words = "All is as it was at the latest image()";
        Edge.promise(33, words)
                .given("open(0) add(0, 1, 1) image() add(0, 2, 1) add(0, 3, 1) keep(0, 1) prune(0, 3)")
                .due(1, "back()").due(2, "add(0, 4, 1)").due(3, "add(0, 5, 1)")
                .row("count(0, #)", 3, 0, 0, 3, 0, 0)
                .due(2, "within(0, 0, 3, 0)").due(2, "within(0, 0, 3, 1)").due(1, "within(0, 0, 3, 2)")
                .due(3, "prune(0, 3)");
        // LOG 2, once a fork of LOG 0, then of LOG 1, then opened: with other KEYS, MAPS and TREES each time.
        Edge.promise(33, words)
                .given("open(0) add(0, 7, 1) add(0, 8, 1) add(0, 9, 1) open(1) add(1, 3, 1) add(1, 12, 1) "
                        + "add(1, 8, 1) image()")
                .given("fork(0, 3) hide(2, 7) head(2, 3, 1, 0) add(2, 3, 1)")
                .due(1, "back()").due(2, "fork(1, 3)")
                .like("head(2, 3, 2, 0)", "head(1, 3, 2, 0)")
                .row("count(2, #)", 3, 0, 1, 3, 0, 0)
                .given("take(0, 1, 3) held(0, 2, 3, 3) absent(1, 2, 3, 7)").dues(1, "check(0, 0, 0) check(1, 0, 0)")
                .given("lag(2, 5) head(2, 3, 1, 0)")
                .due(1, "back()").due(2, "open(3)").row("count(2, #)", 0, 0, 3, 0, 0, 0)
                .given("add(2, 12, 1) add(2, 3, 1) add(2, 9, 1) take(1, 2, 3) held(0, 2, 3, 3) absent(1, 2, 3, 8)")
                .dues(1, "check(0, 1, 0) check(1, 1, 0)")
                .stays(NONE, "held(2, 2, 3, 8) latest(2, 3, 7)");
        // KEYS that were there before count no more: with them these would be more than 400.
        Edge.promise(33, words)
                .given("image() open(0) " + Calls.times(200, "add(0, #, 1)"))
                .due(1, "back()").due(0, "open(0)")
                .given(Calls.times(1000, 1201, "add(0, #, 1)"))
                .row("count(0, #)", 201, 0, 0, 201, 0, 0)
                .due(200, "latest(0, 201, 1200)").due(NONE, "latest(0, 201, 199)");
    }

    private static void promise33BackToFull() {
        Edge.promise(33, "All is as it was at the latest image()").given(Houses.FULL_LOG)
                .given("fork(0, 400) fork(0, 399) take(0, 0, 400) span(0, 0, 400, 3, 43) image() prune(0, 400) "
                        + "add(2, 1, 1)")
                .given("fork(2, 400) drop(0) take(0, 2, 400)")
                .due(1, "back()")
                .row("all(#)", 3, 1, 1, 0, 1199)
                .row("count(0, #)", 400, 0, 0, 400, 0, 0)
                .due(1, "check(0, 0, 0)").due(400, "reader(0, 0)")
                .refused("add(0, 1, 1) add(1, 1, 1)")
                .due(400, "add(2, 2, 2)").due(399, "latest(2, 400, 2)").due(1, "latest(2, 400, 1)");
        Edge.promise(33, "All is as it was at the latest image()").given(Houses.BLAMES)
                .given("image() take(0, 1, 4) smear(59, 0, 1)")
                .due(0, "blame(59, 3)").due(61, "reader(0, 3)")
                .due(1, "back()")
                .row("blame(59, #)", 4, 3, 1, 1).due(60, "reader(0, 3)").due(60, "all(3)");
        Edge.promise(33, "All is as it was at the latest image()")
                .given("open(0) " + Calls.times(99, "hide(0, #)") + "image() hide(0, 99)")
                .refused("hide(0, 100)")
                .due(1, "back()").due(99, "count(0, 4)")
                .due(1, "lag(0, 100)")
                .refused("hide(0, 99)")
                .due(1, "back()").due(1, "hide(0, 99)").row("count(0, #)", 0, 0, 0, 0, 100, 0);
    }

    private static void promise33BackWithoutImage() {
        Edge.promise(33, "false without one.")
                .refused("back()")
                .given(HOUSE.replace("image() ", ""))
                .refused("back()")
                .due(0, "back()")
                .row("all(#)", 3, 6, 4, 2, 14);
    }
}

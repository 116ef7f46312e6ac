/** Edges of term 4 and promises 23 to 27: take, talk, reader, blame, smear. */
final class ReaderEdges {
    private static final int NONE = GlassLog.NONE;
    private static final String HOUSE = Houses.HOUSE;
    private static final String TWO_FACES = Houses.TWO_FACES;
    private static final String NO_READERS = Houses.NO_READERS;
    /** READERS of HOUSE without a HEAD. */
    private static final String HEADLESS = "4 11";

    private ReaderEdges() { }

    static void run() {
        term4Readers();
        term4EqualCounts();
        term4UnlikeCounts();
        term4Blame();
        term4SixtyBlames();
        term4Refused();
        promise23Take();
        promise23TakeHeld();
        promise23TakeBlame();
        promise23TakeRefused();
        promise24Talk();
        promise24TalkBlame();
        promise24TalkRefused();
        promise25Reader();
        promise26Blame();
        promise27Smear();
    }

    // ---- term 4

    private static void term4Readers() {
        Edge.term(4, "READERS 0 .. 11 have a HEAD, or none; a HEAD tells the LOG that it came from.").given(TWO_FACES)
                .given("open(0) open(2) open(3) open(0)")
                .dues(NONE, Calls.times(12, "reader(#, 1)"))
                .dues(1, Calls.times(6, "take(#, #, 0)") + "take(6, 0, 1) take(11, 1, 4)")
                .row("reader(#, 1)", 0, 1, 2, 3, 4, 5, 0, NONE, NONE, NONE, NONE, 1)
                .row("reader(#, 2)", 1, 1, 0, 2, 3, 0, 1, NONE, NONE, NONE, NONE, 1)
                .due(8, "all(2)")
                .refused("take(12, 0, 0) take(-1, 0, 0)");
    }

    private static void term4EqualCounts() {
        String words = "TO HOLD two HEADS of one KEEPER against one another: of equal n they AGREE if their TOPS "
                + "and TREES are like;";
        Edge.term(4, words).given(TWO_FACES)
                .given("take(0, 0, 0) take(1, 1, 0) take(2, 0, 2) take(3, 1, 2) take(4, 0, 3) take(5, 1, 3)")
                .due(1, "talk(0, 1)").due(1, "talk(2, 3)").due(0, "talk(4, 5)")
                .due(1, "all(3)");
        // Like TOPS and unlike TREES, by a KEY that is HIDDEN and by one that LAGS.
        Edge.term(4, words).given(TWO_FACES)
                .given("take(0, 0, 4) fork(0, 4) hide(2, 1) take(1, 2, 4)")
                .due(0, "talk(0, 1)")
                .like("blame(0, 4)", "blame(0, 5)").unlike("blame(0, 6)", "blame(0, 7)");
        Edge.term(4, words).given("open(0) lag(0, 1) add(0, 1, 1) add(0, 1, 1) open(0) add(1, 1, 1) add(1, 1, 1)")
                .given("take(0, 0, 2) take(1, 1, 2)")
                .due(0, "talk(0, 1)")
                .like("blame(0, 4)", "blame(0, 5)").unlike("blame(0, 6)", "blame(0, 7)")
                .due(0, "blame(0, 6)");
        // Unlike TOPS and like TREES: only a VALUE is another one.
        Edge.term(4, words).given("open(0) add(0, 1, 1) open(0) add(1, 1, 2) take(0, 0, 1) take(1, 1, 1)")
                .due(0, "talk(0, 1)")
                .unlike("blame(0, 4)", "blame(0, 5)").like("blame(0, 6)", "blame(0, 7)");
    }

    private static void term4UnlikeCounts() {
        String words = "else the LOG of the one with the greater n shows GROWN (0 entries go with all); they AGREE "
                + "if that is RIGHT for both.";
        Edge.term(4, words).given(TWO_FACES)
                .given("take(0, 0, 0) take(1, 1, 4) take(2, 0, 2) take(3, 0, 3) take(4, 0, 4) take(5, 1, 0)")
                .due(0, "talk(3, 1)").due(0, "talk(1, 3)")
                .due(1, "talk(3, 4)").due(1, "talk(1, 2)").due(1, "talk(0, 1)").due(1, "talk(4, 5)")
                .row("reader(#, 0)", 4, 4, 4, 4, 4, 4)
                .row("reader(#, 1)", 1, 1, 1, 0, 0, 0)
                .due(2, "all(3)");
        // Of unlike n the TREES do not count, and gone entries have SUMS.
        Edge.term(4, words).given(TWO_FACES)
                .given("take(0, 0, 2) hide(0, 1) take(1, 0, 4) prune(0, 4)")
                .due(1, "talk(0, 1)").due(1, "take(0, 1, 2)").due(0, "take(0, 1, 3)");
        Edge.term(4, words).given("open(0) open(0) add(0, 1, 1) take(0, 1, 0) take(1, 0, 1)").due(1, "talk(0, 1)");
        Edge.term(4, words).given(Houses.FULL_LOG)
                .given("fork(0, 399) add(1, 1, 1) take(0, 0, 400) take(1, 1, 400) take(2, 1, 399) take(3, 0, 0)")
                .due(0, "talk(0, 1)").due(1, "talk(2, 0)").due(1, "talk(3, 1)").due(0, "talk(2, 3)");
    }

    private static void term4Blame() {
        Edge.term(4, "If they do not, both are BLAME (one more; first the one held already, or that of the first "
                + "one who talks);").given(TWO_FACES)
                .given("take(0, 0, 4) take(1, 1, 3)")
                .due(0, "take(0, 1, 4)").due(1, "all(3)").due(4, "blame(0, 0)").due(4, "blame(0, 1)")
                .like("blame(0, 4)", "head(0, 4, 0, 0)").like("blame(0, 5)", "head(1, 4, 0, 0)")
                .due(0, "talk(1, 0)").due(2, "all(3)").due(3, "blame(1, 0)").due(4, "blame(1, 1)")
                .due(0, "talk(0, 1)").due(3, "all(3)").due(4, "blame(2, 0)").due(3, "blame(2, 1)")
                .row("reader(#, 3)", 3, 2);
    }

    private static void term4SixtyBlames() {
        Edge.term(4, "the 61st and later ones are not kept.").given(TWO_FACES)
                .given("take(0, 0, 4) take(1, 1, 4) " + Calls.times(58, "take(0, 1, 4)"))
                .due(58, "all(3)").due(0, "take(0, 1, 3)").due(59, "all(3)").due(0, "talk(1, 0)").due(60, "all(3)")
                .due(0, "talk(0, 1)").due(60, "all(3)").due(0, "take(0, 1, 3)").due(60, "all(3)")
                .row("blame(59, #)", 4, 4, 1, 1)
                .like("blame(59, 4)", "head(1, 4, 0, 0)").like("blame(58, 5)", "head(1, 3, 0, 0)")
                .refused("blame(60, 0) blame(61, 0) smear(60, 0, 1) smear(61, 0, 1)")
                // It is BLAME all the same: the READERS were in it.
                .row("reader(#, 3)", 62, 2)
                .row("reader(0, #)", 4, 0, 1).row("reader(1, #)", 4, 1, 1);
    }

    private static void term4Refused() {
        Edge.term(4, "Refused calls answer NONE, or false, and change nothing.").given(Houses.SIX_LOGS)
                .refused("open(0) add(6, 1, 1) fork(0, 0) hide(0, 2) lag(1, 3) prune(0, 7) keep(0, 1) count(0, 6) "
                        + "latest(6, 0, 1)")
                .refused("within(0, 0, 6, 1) grown(0, 0, 6, 5) held(0, 0, 6, 2) absent(0, 0, 6, 1) "
                        + "span(0, 0, 6, 0, 2) drop(16)")
                .refused("proof(16, 0) bend(0, 3, 0, 1) forge(1, 0, 1, 1) check(6, 0, 0) take(0, 0, 7) talk(0, 3) "
                        + "reader(12, 0)")
                .refused("blame(2, 0) smear(2, 0, 1) watcher(8, 0, 0, 1) watch(1) watching(1, 0) all(5)");
    }

    // ---- promises

    private static void promise23Take() {
        Edge.promise(23, "A READER takes the HEAD of a LOG at n: 1, and it has it, if it had none, or one of "
                + "another KEEPER;")
                .given(TWO_FACES + "open(2) open(0) add(3, 1, 1)")
                .due(1, "take(0, 0, 0)").row("reader(0, #)", 0, 0, 1, 0)
                .due(1, "take(11, 1, 4)").row("reader(11, #)", 4, 1, 1, 0)
                .due(1, "take(11, 2, 0)").row("reader(11, #)", 0, 2, 2, 0)
                .due(1, "take(11, 0, 4)").row("reader(11, #)", 4, 0, 1, 0)
                .due(1, "take(11, 3, 1)").row("reader(11, #)", 1, 3, 0, 0)
                .due(1, "take(11, 1, 4)").row("reader(11, #)", 4, 1, 1, 0)
                .due(0, "all(3)").due(2, "all(2)");
        // How often a READER was in a BLAME is not forgotten with its HEAD.
        Edge.promise(23, "or one of another KEEPER;").given(TWO_FACES + "open(2) take(0, 0, 4) take(0, 1, 4)")
                .due(1, "take(0, 2, 0)").row("reader(0, #)", 0, 2, 2, 1)
                .due(1, "all(3)");
    }

    private static void promise23TakeHeld() {
        Edge.promise(23, "else they are HELD against one another: 1 if they AGREE, and it has the one with the "
                + "greater n (of equal n its own);").given(TWO_FACES)
                .given("take(0, 0, 0)")
                .stays(1, "take(0, 0, 0) take(0, 1, 0)")
                .due(1, "take(0, 1, 3)").row("reader(0, #)", 3, 1, 1, 0)
                .stays(1, "take(0, 1, #)", "0 1 2 3")
                .stays(1, "take(0, 0, #)", "0 1 2")
                .due(1, "take(0, 1, 4)").row("reader(0, #)", 4, 1, 1, 0)
                .given("take(1, 0, 2)")
                .stays(1, "take(1, 1, 2) take(1, 0, 2)")
                .due(1, "take(1, 1, 3)").row("reader(1, #)", 3, 1, 1, 0)
                .due(0, "all(3)");
        // Its own of equal n stays with its own TREE, though the LOG's at n is another one now: that is BLAME.
        Edge.promise(23, "else they are HELD against one another").given(TWO_FACES)
                .given("take(0, 0, 3) take(1, 0, 4) hide(0, 1)")
                .stays(1, "take(0, 0, 3)")
                .due(0, "take(1, 0, 4)").due(1, "all(3)");
    }

    private static void promise23TakeBlame() {
        Edge.promise(23, "0: BLAME, it keeps its own.").given(TWO_FACES)
                .given("take(0, 1, 3) take(3, 0, 4)")
                .due(0, "take(0, 0, 3)").row("reader(0, #)", 3, 1, 1, 1)
                .due(0, "take(0, 0, 4)").row("reader(0, #)", 3, 1, 1, 2)
                .due(0, "take(3, 1, 3)").row("reader(3, #)", 4, 0, 1, 1)
                .due(3, "all(3)")
                .row("blame(0, #)", 3, 3, 1, 1).row("blame(1, #)", 3, 4, 1, 1).row("blame(2, #)", 4, 3, 1, 1)
                .due(1, "take(0, 1, 4)").row("reader(0, #)", 4, 1, 1, 2);
    }

    private static void promise23TakeRefused() {
        Edge.promise(23, "Refused: no such READER, LOG, n.").given(HOUSE)
                .refused("take(#, 0, 0)", NO_READERS)
                .refused("take(#, 0, 6)", NO_READERS)
                .refused("take(0, #, 0)", Houses.NO_LOGS)
                .refused("take(4, #, 0)", Houses.NO_LOGS)
                .refused("take(0, 0, #)", "-1 7 400 MIN MAX")
                .refused("take(11, 0, #)", "-1 7 MIN MAX")
                .refused("take(3, 2, 3)");
    }

    private static void promise24Talk() {
        Edge.promise(24, "Two READERS talk: their HEADS are HELD against one another: 1 if they AGREE, and both "
                + "have the one with the greater n (of equal n each its own);").given(TWO_FACES)
                .given("take(0, 0, 0) take(1, 1, 0) take(2, 0, 2) take(3, 1, 2) take(11, 1, 4) take(5, 0, 4)")
                .stays(1, "talk(0, 1) talk(1, 0) talk(2, 3) talk(3, 2)")
                .due(1, "talk(0, 11)").row("reader(0, #)", 4, 1, 1, 0).row("reader(11, #)", 4, 1, 1, 0)
                .due(1, "talk(5, 2)").row("reader(2, #)", 4, 0, 1, 0).row("reader(5, #)", 4, 0, 1, 0)
                .stays(1, "talk(5, 2) talk(2, 5) talk(0, 11)")
                .due(1, "talk(3, 1)").row("reader(1, #)", 2, 1, 1, 0)
                .due(0, "all(3)").due(0, "talk(0, 2)");
    }

    private static void promise24TalkBlame() {
        Edge.promise(24, "0: BLAME, each keeps its own.").given(TWO_FACES)
                .given("take(0, 0, 4) take(11, 1, 3)")
                .due(0, "talk(0, 11)").row("reader(0, #)", 4, 0, 1, 1).row("reader(11, #)", 3, 1, 1, 1)
                .due(0, "talk(11, 0)").row("reader(0, #)", 4, 0, 1, 2).row("reader(11, #)", 3, 1, 1, 2)
                .row("blame(0, #)", 4, 3, 1, 1).row("blame(1, #)", 3, 4, 1, 1)
                .due(2, "all(3)");
    }

    private static void promise24TalkRefused() {
        Edge.promise(24, "Refused: no such READER, one with itself, one has no HEAD, or of unlike KEEPERS.")
                .given(HOUSE)
                .refused("talk(0, #)", NO_READERS)
                .refused("talk(#, 0)", NO_READERS)
                .refused("talk(-1, -1) talk(12, 12) talk(MIN, MAX)")
                .refused("talk(#, #)", "0 1 2 3 4 11")
                .refused("talk(0, #)", HEADLESS)
                .refused("talk(#, 0)", HEADLESS)
                .refused("talk(4, 11)")
                .refused("talk(0, 3) talk(3, 0) talk(1, 3) talk(3, 2)")
                .given("open(0) take(4, 3, 0)")
                .refused("talk(0, 4) talk(4, 0) talk(4, 3)");
    }

    private static void promise25Reader() {
        Edge.promise(25, "Of a READER's HEAD, what 0: n, 1: the LOG it came from, 2: its KEEPER, 3: how often it "
                + "was in a BLAME.")
                .given(HOUSE)
                .row("reader(0, #)", 5, 0, 1, 2).row("reader(1, #)", 2, 1, 1, 0)
                .row("reader(2, #)", 5, 1, 1, 1).row("reader(3, #)", 2, 2, 3, 0)
                .given("take(11, 2, 0)").row("reader(11, #)", 0, 2, 3, 0);
        // Far more often than BLAMES are kept, up to the last call that is promised.
        Edge.promise(25, "3: how often it was in a BLAME.").given(Houses.TWO_FACES + "take(0, 0, 4) take(1, 1, 4)")
                .given(Calls.times(500, "talk(0, 1)"))
                .due(500, "reader(0, 3)");
        Edge.promise(25, "NONE: no such READER, another what; of 0 to 2 also without a HEAD.").given(HOUSE)
                .refused("reader(#, 0)", NO_READERS)
                .refused("reader(#, 3)", NO_READERS)
                .refused("reader(0, #)", "-1 4 5 MIN MAX")
                .refused("reader(4, #)", "0 1 2 -1 4 MIN MAX")
                .refused("reader(11, #)", "0 1 2")
                .stays(0, "reader(#, 3)", HEADLESS);
    }

    private static void promise26Blame() {
        Edge.promise(26, "Of BLAME k (from 0 on), what 0, 1: n of the first, second HEAD, 2: KEEPER, 3: whether "
                + "both MARKS are right (1, 0), 4, 5: a0 of their TOPS, 6, 7: of their TREES.").given(HOUSE)
                .row("blame(0, #)", 5, 5, 1, 1).row("blame(1, #)", 5, 4, 1, 1)
                .like("blame(0, 4)", "head(0, 5, 0, 0)").like("blame(0, 5)", "head(1, 5, 0, 0)")
                .like("blame(0, 6)", "head(0, 5, 1, 0)").like("blame(0, 7)", "head(1, 5, 1, 0)")
                .like("blame(1, 4)", "head(0, 5, 0, 0)").like("blame(1, 5)", "head(1, 4, 0, 0)")
                .like("blame(1, 6)", "head(0, 5, 1, 0)").like("blame(1, 7)", "head(1, 4, 1, 0)")
                // What a READER or a LOG does later does not change it.
                .given("take(0, 2, 0) take(2, 2, 0) hide(1, 8) add(1, 8, 1) prune(1, 5)")
                .row("blame(0, #)", 5, 5, 1, 1);
        for (int keeper = 0; keeper < 4; keeper++) {
            Edge.promise(26, "2: KEEPER, 3: whether both MARKS are right (1, 0)")
                    .given(Calls.times(keeper, keeper + 1, "open(#) add(0, 1, 1) open(#) add(1, 2, 1) take(0, 0, 1)"))
                    .due(0, "take(0, 1, 1)").row("blame(0, #)", 1, 1, keeper, 1);
        }
        Edge.promise(26, "NONE: no such BLAME, another what.").given(HOUSE)
                .refused("blame(#, 0)", "-1 2 59 60 MIN MAX")
                .refused("blame(2, #)", "3 4 7")
                .refused("blame(0, #)", "-1 8 9 MIN MAX");
        Edge.promise(26, "NONE: no such BLAME").given(Houses.BLAMES)
                .row("blame(59, #)", 4, 3, 1, 1)
                .refused("blame(#, 0)", "-1 60 61 MAX");
    }

    private static void promise27Smear() {
        Edge.promise(27, "The SECOND HEAD of BLAME k is told with int j of its MARK exclusive-ored by mask: true.")
                .given(HOUSE)
                .stays(1, "smear(0, 0, 0) smear(1, 7, 0)")
                .due(1, "smear(0, 0, MIN)").row("blame(#, 3)", 0, 1).row("blame(0, #)", 5, 5, 1)
                .due(1, "smear(0, 7, -1)").due(1, "smear(0, 0, MIN)").due(0, "blame(0, 3)")
                .due(1, "smear(0, 7, MAX)").due(0, "blame(0, 3)").due(1, "smear(0, 7, MIN)").due(1, "blame(0, 3)")
                .due(1, "smear(1, 7, 1)").row("blame(#, 3)", 1, 0)
                // The HEADS that the READERS have are not told so.
                .due(1, "smear(0, 3, 1)").due(0, "talk(0, 2)").row("blame(#, 3)", 0, 0, 1);
        Edge.promise(27, "Refused: no such BLAME, int.").given(HOUSE)
                .refused("smear(#, 0, 1)", "-1 2 59 60 MIN MAX")
                .refused("smear(0, #, 1)", "-1 8 16 MIN MAX")
                .refused("smear(1, #, 1)", "-1 8 -8");
        Edge.promise(27, "Refused: no such BLAME").given(Houses.BLAMES)
                .due(1, "smear(59, 7, 1)").due(0, "blame(59, 3)").due(1, "blame(58, 3)")
                .refused("smear(#, 0, 1)", "-1 60 61 MAX");
    }
}

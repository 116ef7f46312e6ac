/** Calls that lead to states with edges: one with something of each kind, and some that are full. */
final class Houses {
    /** Numbers of no LOG in HOUSE, which has 0 .. 2; of no SLOT; READER; WATCHER. */
    static final String NO_LOGS = "-1 3 5 6 MIN MAX";
    static final String NO_SLOTS = "-1 16 MIN MAX";
    static final String NO_READERS = "-1 12 MIN MAX";
    static final String NO_WATCHERS = "-1 8 MIN MAX";

    /**
     * LOG 0 (KEEPER 1): KEYS 1 2 3 1 2 2, KEY 2 HIDDEN since 5, entry 0 kept, 1 and 2 gone. LOG 1 (KEEPER
     * 1): 1 2 3 8 9 3, KEY 3 LAGS since 5. LOG 2 (KEEPER 3): 5 -7. SLOTS 0 .. 5 have a PROOF, READERS 0
     * .. 3 a HEAD (LOG 0 at 5, LOG 1 at 2 and 5, LOG 2 at 2), there are 2 BLAMES, and WATCHERS 0, 5, 6. The
     * image is of an earlier state.
     */
    static final String HOUSE = "open(1) add(0, 1, 10) add(0, 2, 11) add(0, 3, 12) add(0, 1, 13) add(0, 2, 14) "
            + "fork(0, 3) add(1, 8, 18) add(1, 9, 19) open(3) add(2, 5, 50) add(2, -7, MIN) hide(0, 2) lag(1, 3) "
            + "take(0, 0, 5) take(1, 1, 2) within(9, 0, 5, 0) watcher(6, 2, -10, 10) watch(6) image() "
            + "keep(0, 0) prune(0, 3) within(0, 0, 5, 3) grown(1, 1, 2, 5) held(2, 1, 5, 8) absent(3, 1, 5, 77) "
            + "span(4, 1, 5, 1, 4) absent(5, 2, 0, 0) drop(9) take(2, 1, 5) take(3, 2, 2) talk(0, 2) take(0, 1, 4) "
            + "watcher(0, 0, 0, 9) watch(0) watcher(5, 1, 0, 9) add(0, 2, 15) add(1, 3, 20) ";

    /** HOUSE with the LOGS 3 .. 5. */
    static final String SIX_LOGS = HOUSE + "open(0) fork(0, 6) open(2) ";

    /** LOG 0 of KEEPER 0 with 400 entries, KEY and VALUE like the entry's number. */
    static final String FULL_LOG = "open(0) " + Calls.times(400, "add(0, #, #)");

    /** Two faces of KEEPER 1: LOG 0 has KEYS 1 2 3 4, LOG 1 has 1 2 5 6. */
    static final String TWO_FACES = "open(1) add(0, 1, 1) add(0, 2, 2) add(0, 3, 3) add(0, 4, 4) fork(0, 2) "
            + "add(1, 5, 5) add(1, 6, 6) ";

    /** TWO_FACES, and READER 0, who has LOG 0's HEAD at 4, in 60 BLAMES, the one at 3 by the last. */
    static final String BLAMES = TWO_FACES + "take(0, 0, 4) " + Calls.times(59, "take(0, 1, 4)") + "take(0, 1, 3) ";

    private Houses() { }
}

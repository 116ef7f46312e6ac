/** Edges of term 3 and promises 12 to 22: within, grown, held, absent, span, drop, proof, step, bend, forge, check. */
final class ProofEdges {
    private static final int NONE = GlassLog.NONE;
    private static final int[] NOUGHT = new int[8];
    private static final String HOUSE = Houses.HOUSE;
    private static final String NO_LOGS = Houses.NO_LOGS;
    private static final String NO_SLOTS = Houses.NO_SLOTS;
    private static final String NO_READERS = Houses.NO_READERS;
    /** No count of LOG 0 in HOUSE, which has 6 entries. */
    private static final String NO_COUNTS = "-1 7 400 MIN MAX";

    private ProofEdges() { }

    static void run() {
        term3Slots();
        term3Within();
        term3Span();
        term3Grown();
        term3Held();
        term3Absent();
        term3OfCount();
        promise12Within();
        promise13Grown();
        promise14Held();
        promise15Absent();
        promise16Span();
        promise16SpanRefused();
        promise17Drop();
        promise18Proof();
        promise19Step();
        promise20Bend();
        promise21Forge();
        promise22Check();
        promise22CheckNone();
    }

    private static int[] entry(int key, long value) {
        return Model.sum(new Model.Entry(key, value));
    }

    // ---- term 3

    private static void term3Slots() {
        Edge.term(3, "PROOFS lie in SLOTS 0 .. 15. Each tells a kind, numbers, and STEPS, which are SUMS:")
                .given("open(0)")
                .dues(0, Calls.times(16, "absent(#, 0, 0, #)"))
                .due(16, "all(1)")
                .row("proof(#, 5)", 0, 1, 2, 3, 4, 5, 6, 7, 8, 9, 10, 11, 12, 13, 14, 15)
                .dues(4, Calls.times(16, "drop(#)"))
                .due(0, "all(1)");
    }

    private static void term3Within() {
        Edge.term(3, "1 WITHIN: n, i; KEY, VALUE of entry i. STEPS: the SUMS of BLOCKS from 0 to i, then from i + 1 "
                + "to n.")
                .given("open(0) " + Calls.times(4, "add(0, #, #)"))
                .due(0, "within(0, 0, 1, 0)")
                .due(2, "within(1, 0, 4, 0)").sum("step(1, 0, #)", entry(1, 1))
                .sum("step(1, 1, #)", Model.joined(entry(2, 2), entry(3, 3)))
                .due(2, "within(2, 0, 4, 3)").sum("step(2, 0, #)", Model.joined(entry(0, 0), entry(1, 1)))
                .sum("step(2, 1, #)", entry(2, 2))
                .row("proof(2, #)", 1, 2, 4, 3, 0, 3, 0, 0);
    }

    private static void term3Span() {
        Edge.term(3, "5 SPAN: n, a, b; KEYS, VALUES of a .. b - 1. STEPS: BLOCKS from 0 to a, from b to n.")
                .given("open(0) " + Calls.times(4, "add(0, #, #)"))
                .due(0, "span(0, 0, 4, 0, 4)")
                .due(2, "span(0, 0, 4, 1, 3)").sum("step(0, 0, #)", entry(0, 0)).sum("step(0, 1, #)", entry(3, 3))
                // BLOCKS from 0 to 1, then from 1 to 4: the second ones begin where no entry stands between.
                .due(3, "span(0, 0, 4, 1, 1)").sum("step(0, 0, #)", entry(0, 0)).sum("step(0, 1, #)", entry(1, 1))
                .sum("step(0, 2, #)", Model.joined(entry(2, 2), entry(3, 3)));
        Edge.term(3, "RIGHT for a HEAD: it is of n, and the TOP of the blocks, with the entries in their place, is "
                + "its TOP.")
                .given("open(0) add(0, 1, 1) add(0, 1, 1) add(0, 2, 2) add(0, 1, 1)")
                .given("take(0, 0, 4) take(1, 0, 3) take(2, 0, 0)")
                .given("within(0, 0, 4, 0) span(1, 0, 4, 0, 4) span(2, 0, 4, 4, 4) span(3, 0, 0, 0, 0)")
                .dues(1, "check(0, 0, 0) check(1, 0, 0) check(2, 0, 0) check(3, 2, 0)")
                .dues(0, "check(0, 1, 0) check(1, 1, 0) check(2, 1, 0) check(3, 0, 0) check(0, 2, 0) check(2, 2, 0)")
                // The same entries, two of them in one another's place.
                .given("forge(1, 2, 1, 1) forge(1, 3, 2, 2)").due(0, "check(1, 0, 0)")
                .given("forge(1, 2, 2, 2) forge(1, 3, 1, 1)").due(1, "check(1, 0, 0)");
    }

    private static void term3Grown() {
        Edge.term(3, "2 GROWN: m, n, m not above n. STEPS: PEAKS of m, then BLOCKS from m to n.")
                .given("open(0) " + Calls.times(4, "add(0, #, #)"))
                .due(0, "grown(0, 0, 0, 0)")
                .due(1, "grown(0, 0, 4, 4)")
                .due(1, "grown(0, 0, 0, 4)")
                .due(3, "grown(0, 0, 3, 4)").sum("step(0, 0, #)", Model.joined(entry(0, 0), entry(1, 1)))
                .sum("step(0, 1, #)", entry(2, 2)).sum("step(0, 2, #)", entry(3, 3))
                .refused("grown(0, 0, 4, 3) grown(0, 0, 1, 0)");
        Edge.term(3, "RIGHT for two HEADS, of m and of n: the TOP of the first ones is the one's, of all the other "
                + "one's.")
                .given(Houses.TWO_FACES)
                .given("take(0, 0, 2) take(1, 0, 4) take(2, 1, 4) take(3, 1, 3) take(4, 0, 0) take(5, 0, 3)")
                .given("grown(0, 0, 2, 4) grown(1, 0, 3, 4) grown(2, 0, 0, 4) grown(3, 0, 4, 4) grown(4, 0, 0, 0)")
                .dues(1, "check(0, 0, 1) check(1, 5, 1) check(2, 4, 1) check(3, 1, 1) check(4, 4, 4)")
                .dues(0, "check(0, 0, 2) check(1, 3, 1) check(1, 3, 2) check(1, 5, 2) check(2, 4, 2) check(3, 1, 2)")
                .dues(0, "check(3, 2, 1) check(0, 1, 0) check(0, 0, 0) check(0, 1, 1) check(4, 4, 0) check(4, 0, 4)");
    }

    private static void term3Held() {
        String words = "3 HELD: n, KEY, its LATEST. STEPS: on its WAY from the top to where it is alone, of each "
                + "parting the TREE of the other side.";
        // The WAYS of 1, 2, 3, 8, 9 begin with 0010, 0011, 1111, 0100, 1011.
        int[] three = Model.mix(5, 3, 2);
        int[] nine = Model.mix(5, 9, 4);
        int[] eight = Model.mix(5, 8, 3);
        Edge.term(3, words)
                .given("open(0) add(0, 1, 1) add(0, 2, 1) add(0, 3, 1) add(0, 8, 1) add(0, 9, 1)")
                .due(0, "held(0, 0, 1, 1)")
                .due(4, "held(0, 0, 5, 1)")
                .sum("step(0, 0, #)", Model.joined(nine, three)).sum("step(0, 1, #)", eight)
                .sum("step(0, 2, #)", NOUGHT).sum("step(0, 3, #)", Model.mix(5, 2, 1))
                .due(2, "held(0, 0, 5, 9)").sum("step(0, 1, #)", three)
                .row("proof(0, #)", 3, 2, 5, 0, 0, 9, 4, 0);
        Edge.term(3, "RIGHT for a HEAD of n: MIX of 5, KEY, LATEST, JOINED with these from the last one up, each by "
                + "the WAY's bit, is its TREE.").given(HOUSE)
                .given("held(6, 2, 1, 5) take(4, 2, 1)")
                .due(1, "check(6, 4, 0)")
                .dues(1, "check(2, 2, 0)").dues(0, "check(2, 0, 0) check(2, 1, 0) check(2, 3, 0) check(6, 3, 0)")
                .given("bend(2, 1, 7, 1)").due(0, "check(2, 2, 0)")
                .given("bend(2, 1, 7, 1)").due(1, "check(2, 2, 0)");
    }

    private static void term3Absent() {
        Edge.term(3, "4 ABSENT: n, KEY, and another KEY with its LATEST, or none: as HELD of the other one, on the "
                + "way of KEY, down to where that one is alone, or NOUGHT is.")
                .given("open(0) add(0, 1, 1) add(0, 2, 1) add(0, 3, 1) add(0, 8, 1) add(0, 9, 1)")
                .due(0, "absent(0, 0, 0, 77)").row("proof(0, #)", 4, 0, 0, 0, 0, 77, NONE, 0)
                .due(0, "absent(0, 0, 1, 77)").row("proof(0, #)", 4, 0, 1, 0, 0, 77, 0, 1)
                .due(2, "absent(0, 0, 5, 77)").row("proof(0, #)", 4, 2, 5, 0, 0, 77, 4, 9)
                .due(4, "absent(0, 0, 5, 104)").row("proof(0, #)", 4, 4, 5, 0, 0, 104, 1, 2)
                // 105's WAY begins with 000: beside 1 and 2, which have 001.
                .due(3, "absent(0, 0, 5, 105)").row("proof(0, #)", 4, 3, 5, 0, 0, 105, NONE, 0)
                .due(2, "held(1, 0, 5, 9)").due(2, "absent(0, 0, 5, 77)")
                .like("step(0, 0, 0)", "step(1, 0, 0)").like("step(0, 1, 7)", "step(1, 1, 7)");
        // The other KEY is never this one, as no call shows ABSENT of a KEY that is there; but 0 is told where
        // there is no other one, and 0 may be the KEY.
        Edge.term(3, "RIGHT likewise (with the other's MIX, or NOUGHT); but not if the other KEY is this one.")
                .given("open(0) take(0, 0, 0) absent(0, 0, 0, 0)").due(1, "check(0, 0, 0)")
                .given("add(0, 1, 1) add(0, 2, 1) add(0, 3, 1) add(0, 8, 1) add(0, 9, 1) take(1, 0, 5) take(2, 0, 1)")
                .given("absent(1, 0, 5, 105) absent(2, 0, 5, 77) absent(3, 0, 1, 0)")
                .dues(1, "check(0, 0, 0) check(1, 1, 0) check(2, 1, 0) check(3, 2, 0)")
                .dues(0, "check(0, 1, 0) check(1, 0, 0) check(2, 2, 0) check(3, 1, 0)")
                .given("bend(1, 2, 0, MIN)").due(0, "check(1, 1, 0)")
                // KEY 0 beside others: its WAY begins with 0010 as 1's does, so that one is alone there.
                .given("hide(0, 2) add(0, 3, 1) take(3, 0, 6)")
                .given("absent(4, 0, 6, 0) absent(5, 0, 6, 2)").dues(1, "check(4, 3, 0) check(5, 3, 0)");
        // The other KEY is 0.
        Edge.term(3, "RIGHT likewise (with the other's MIX, or NOUGHT)")
                .given("open(0) add(0, 0, 1) take(0, 0, 1) absent(0, 0, 1, 5)")
                .row("proof(0, #)", 4, 0, 1, 0, 0, 5, 0, 0)
                .due(1, "check(0, 0, 0)");
    }

    /** Calls that bend a STEP of a PROOF, which is this SUM, into another SUM. */
    private static String bending(int slot, int s, int[] from, int[] to) {
        StringBuilder calls = new StringBuilder();
        for (int j = 0; j < 8; j++) {
            calls.append("bend(" + slot + ", " + s + ", " + j + ", " + (from[j] ^ to[j]) + ") ");
        }
        return calls.toString();
    }

    /** A HEAD of another count is refused though its TOP, or TREE, is the one that comes out. */
    private static void term3OfCount() {
        int[] one = entry(1, 1);
        int[] two = Model.joined(one, entry(2, 2));
        String heads = "open(0) add(0, 1, 1) add(0, 2, 2) take(0, 0, 0) take(1, 0, 1) take(2, 0, 2) ";
        Edge.term(3, "RIGHT for a HEAD: it is of n").given(heads + "span(0, 0, 1, 0, 0)")
                .due(1, "check(0, 1, 0)")
                .given(bending(0, 0, one, two)).sum("step(0, 0, #)", two)
                .due(0, "check(0, 2, 0)").due(0, "check(0, 1, 0)");
        Edge.term(3, "RIGHT for two HEADS, of m and of n").given(heads + "grown(0, 0, 0, 1) grown(1, 0, 1, 1)")
                .due(1, "check(0, 0, 1)").due(1, "check(1, 1, 1)")
                .given(bending(0, 0, one, two) + bending(1, 0, one, two))
                .due(0, "check(0, 0, 2)").due(0, "check(1, 2, 2)").due(0, "check(1, 1, 2)").due(0, "check(1, 2, 1)");
        // An entry whose KEY is HIDDEN leaves the TREE as it was.
        Edge.term(3, "RIGHT for a HEAD of n")
                .given("open(0) hide(0, 9) add(0, 1, 1) add(0, 9, 9) take(0, 0, 1) take(1, 0, 2)")
                .like("head(0, 1, 1, 0)", "head(0, 2, 1, 0)")
                .given("held(0, 0, 1, 1) held(1, 0, 2, 1) absent(2, 0, 1, 5) absent(3, 0, 2, 5)")
                .dues(1, "check(0, 0, 0) check(1, 1, 0) check(2, 0, 0) check(3, 1, 0)")
                .dues(0, "check(0, 1, 0) check(1, 0, 0) check(2, 1, 0) check(3, 0, 0)");
    }

    // ---- promises

    private static void promise12Within() {
        Edge.promise(12, "The LOG shows WITHIN in a SLOT: how many STEPS.").given(HOUSE)
                .due(2, "within(15, 1, 6, 5)").row("proof(15, #)", 1, 2, 6, 5, 0, 3, 0, 0)
                .due(7, "all(1)")
                // Where a SPAN of three entries lay there is one entry alone.
                .due(1, "within(4, 2, 2, 0)").row("proof(4, #)", 1, 1, 2, 0, 0, 5, 0, 0)
                .refused("forge(4, 1, 1, 1) bend(4, 1, 0, 1)")
                .due(1, "check(4, 3, 0)")
                .due(0, "within(0, 0, 1, 0)").row("proof(0, #)", 1, 0, 1, 0, 0, 1, 0, 0)
                .due(7, "all(1)");
        Edge.promise(12, "how many STEPS.").given(Houses.FULL_LOG)
                .due(10, "within(0, 0, 400, 0)").due(6, "within(0, 0, 400, 399)").due(10, "within(0, 0, 400, 255)")
                .due(0, "within(0, 0, 1, 0)").due(8, "within(0, 0, 256, 0)").due(8, "within(0, 0, 256, 255)");
        Edge.promise(12, "Refused: no such SLOT, LOG, n, i not below n, or it is gone.").given(HOUSE)
                .refused("within(#, 0, 6, 0)", NO_SLOTS)
                .refused("within(0, #, 1, 0)", NO_LOGS)
                .refused("within(0, 0, #, 0)", NO_COUNTS)
                .refused("within(0, 0, 5, #)", "5 6 7 MAX -1 MIN")
                .refused("within(0, 0, 6, 6) within(0, 0, 0, 0) within(0, 0, 0, -1) within(0, 0, 7, 6)")
                .refused("within(0, 0, 6, 1) within(0, 0, 6, 2) within(15, 0, 2, 1)");
    }

    private static void promise13Grown() {
        Edge.promise(13, "GROWN likewise.").given(HOUSE)
                .due(0, "grown(15, 0, 0, 0)").row("proof(15, #)", 2, 0, 0, 0, 0, 0, 0, 0)
                .due(2, "grown(15, 0, 0, 6)").row("proof(15, #)", 2, 2, 6, 0, 0, 0, 0, 0)
                .due(2, "grown(15, 0, 6, 6)").row("proof(15, #)", 2, 2, 6, 6, 0, 0, 0, 0)
                .due(3, "grown(0, 1, 5, 6)").row("proof(0, #)", 2, 3, 6, 5, 0, 0, 0, 0)
                .refused("forge(0, 0, 1, 1)");
        Edge.promise(13, "GROWN likewise.").given(Houses.FULL_LOG)
                .given("take(0, 0, 400) take(1, 0, 399) take(2, 0, 0) take(3, 0, 1)")
                .due(3, "grown(0, 0, 400, 400)").due(1, "check(0, 0, 0)")
                .due(7, "grown(0, 0, 399, 400)").due(1, "check(0, 1, 0)")
                .due(3, "grown(0, 0, 0, 400)").due(1, "check(0, 2, 0)")
                .due(11, "grown(0, 0, 1, 400)").due(1, "check(0, 3, 0)");
        Edge.promise(13, "Refused: no such SLOT, LOG, m, n, m above n.").given(HOUSE)
                .refused("grown(#, 0, 0, 0)", NO_SLOTS)
                .refused("grown(0, #, 0, 0)", NO_LOGS)
                .refused("grown(0, 0, #, 6)", NO_COUNTS)
                .refused("grown(0, 0, 0, #)", NO_COUNTS)
                .refused("grown(0, 0, #, #)", NO_COUNTS)
                .refused("grown(0, 0, 1, 0) grown(0, 0, 6, 5) grown(0, 0, MAX, MIN) grown(0, 0, MIN, MAX)")
                .refused("grown(15, 0, 6, 5) grown(0, 2, 2, 3)");
    }

    private static void promise14Held() {
        Edge.promise(14, "HELD likewise.").given(HOUSE)
                .due(0, "held(15, 2, 1, 5)").row("proof(15, #)", 3, 0, 1, 0, 0, 5, 0, 0)
                .due(1, "held(15, 0, 6, 1)").row("proof(15, #)", 3, 1, 6, 0, 0, 1, 3, 0)
                .due(2, "held(0, 1, 6, 3)").row("proof(0, #)", 3, 2, 6, 0, 0, 3, 2, 0)
                .due(4, "held(15, 0, 4, 2)").row("proof(15, #)", 3, 4, 4, 0, 0, 2, 1, 0)
                .refused("forge(0, 0, 1, 1)");
        Edge.promise(14, "HELD likewise.")
                .given("open(0) add(0, MIN, 1) add(0, MAX, 1) add(0, 0, 1) add(0, -1, 1) take(0, 0, 4)")
                .given("held(0, 0, 4, MIN) held(1, 0, 4, MAX) held(2, 0, 4, 0) held(3, 0, 4, -1)")
                .row("proof(#, 6)", 0, 1, 2, 3)
                .dues(1, "check(0, 0, 0) check(1, 0, 0) check(2, 0, 0) check(3, 0, 0)");
        Edge.promise(14, "Refused: no such SLOT, LOG, n, or the KEY is not in the MAP at n.").given(HOUSE)
                .refused("held(#, 0, 6, 1)", NO_SLOTS)
                .refused("held(0, #, 1, 1)", NO_LOGS)
                .refused("held(0, 0, #, 1)", NO_COUNTS)
                .refused("held(0, 0, 6, #)", "2 0 8 -1 MIN MAX")
                .refused("held(0, 0, 0, 1) held(0, 0, 5, 2) held(0, 0, 2, 3) held(15, 0, 1, 2)")
                .given("lag(2, 100) add(2, 100, 1)")
                .refused("held(0, 2, 3, 100)");
    }

    private static void promise15Absent() {
        Edge.promise(15, "ABSENT likewise.").given(HOUSE)
                .due(0, "absent(15, 2, 0, 5)").row("proof(15, #)", 4, 0, 0, 0, 0, 5, NONE, 0)
                .due(0, "absent(15, 2, 1, -7)").row("proof(15, #)", 4, 0, 1, 0, 0, -7, 0, 5)
                .due(1, "absent(0, 0, 6, 2)").row("proof(0, #)", 4, 1, 6, 0, 0, 2, 3, 1)
                .due(1, "absent(0, 0, 5, 2)").row("proof(0, #)", 4, 1, 5, 0, 0, 2, 3, 1)
                .due(1, "check(0, 0, 0)")
                .refused("forge(0, 0, 1, 1)")
                .given("lag(2, 100) add(2, 100, 1) take(4, 2, 3) absent(0, 2, 3, 100)").due(1, "check(0, 4, 0)");
        Edge.promise(15, "ABSENT likewise.").given("open(0) add(0, 1, 1) take(0, 0, 1)")
                .given("absent(0, 0, 1, MIN) absent(1, 0, 1, MAX) absent(2, 0, 1, 0) absent(3, 0, 1, -1)")
                .row("proof(0, #)", 4, 0, 1, 0, 0, Integer.MIN_VALUE, 0, 1)
                .row("proof(1, #)", 4, 0, 1, 0, 0, Integer.MAX_VALUE, 0, 1)
                .dues(1, "check(0, 0, 0) check(1, 0, 0) check(2, 0, 0) check(3, 0, 0)");
        Edge.promise(15, "Refused: no such SLOT, LOG, n, or the KEY is in the MAP at n.").given(HOUSE)
                .refused("absent(#, 0, 6, 9)", NO_SLOTS)
                .refused("absent(0, #, 0, 9)", NO_LOGS)
                .refused("absent(0, 0, #, 9)", NO_COUNTS)
                .refused("absent(0, 0, 6, 1) absent(0, 0, 6, 3) absent(0, 0, 4, 2) absent(0, 0, 1, 1) "
                        + "absent(15, 0, 3, 3)")
                .refused("absent(0, 1, 6, 3) absent(0, 1, 5, 3) absent(15, 2, 2, -7)");
    }

    private static void promise16Span() {
        Edge.promise(16, "SPAN likewise, from a up to ahead of b.").given(Houses.FULL_LOG)
                .given("take(0, 0, 400) take(1, 0, 0) take(2, 0, 40)")
                .due(6, "span(0, 0, 400, 0, 40)").row("proof(0, #)", 5, 6, 400, 0, 40, 0, 0, 0)
                .due(4, "span(1, 0, 400, 360, 400)").row("proof(1, #)", 5, 4, 400, 360, 400, 360, 0, 0)
                .due(3, "span(2, 0, 400, 400, 400)").row("proof(2, #)", 5, 3, 400, 400, 400, 0, 0, 0)
                .due(3, "span(3, 0, 400, 0, 0)")
                .due(0, "span(4, 0, 40, 0, 40)")
                .due(0, "span(5, 0, 0, 0, 0)").row("proof(5, #)", 5, 0, 0, 0, 0, 0, 0, 0)
                .dues(1, "check(0, 0, 0) check(1, 0, 0) check(2, 0, 0) check(3, 0, 0) check(4, 2, 0) check(5, 1, 0)")
                .due(1, "forge(1, 39, 1, 1)").due(0, "check(1, 0, 0)");
        Edge.promise(16, "from a up to ahead of b.").given(HOUSE)
                .due(3, "span(15, 1, 6, 5, 5)").row("proof(15, #)", 5, 3, 6, 5, 5, 0, 0, 0);
    }

    private static void promise16SpanRefused() {
        Edge.promise(16, "Refused: no such SLOT, LOG, n, not 0 <= a <= b <= n").given(HOUSE)
                .refused("span(#, 1, 6, 0, 6)", NO_SLOTS)
                .refused("span(4, #, 0, 0, 0)", NO_LOGS)
                .refused("span(4, #, 1, 0, 1)", NO_LOGS)
                .refused("span(4, 1, #, 0, 0)", NO_COUNTS)
                .refused("span(4, 1, 6, #, 6)", NO_COUNTS)
                .refused("span(4, 1, 6, 0, #)", NO_COUNTS)
                .refused("span(4, 1, 6, #, #)", NO_COUNTS)
                .refused("span(4, 1, 5, 5, 6) span(4, 1, 6, 3, 2) span(15, 1, 6, 1, 0)")
                .refused("span(4, 1, 6, MIN, MAX) span(4, 1, 6, MAX, MIN) span(4, 1, 6, -1, 0)");
        Edge.promise(16, "b - a above 40").given(Houses.FULL_LOG)
                .refused("span(0, 0, 400, 0, 41) span(0, 0, 400, 359, 400) span(0, 0, 400, 0, 400) "
                        + "span(0, 0, 41, 0, 41)");
        Edge.promise(16, "or one is gone.").given(HOUSE)
                .refused("span(4, 0, 6, 0, 2) span(4, 0, 6, 0, 6) span(4, 0, 6, 1, 2) span(4, 0, 6, 2, 3) "
                        + "span(4, 0, 6, 2, 6)")
                .refused("span(15, 0, 3, 0, 3)")
                .due(3, "span(4, 0, 6, 0, 1)").due(2, "span(4, 0, 6, 3, 6)")
                .due(4, "span(4, 0, 6, 1, 1)").due(3, "span(4, 0, 6, 2, 2)");
    }

    private static void promise17Drop() {
        Edge.promise(17, "A SLOT is empty: its kind was that (0: it was empty).").given(HOUSE)
                .stays(0, "drop(#)", "6 9 15")
                .row("drop(#)", 1, 2, 3, 4, 5, 4, 0)
                .row("proof(0, #)", 0, 0, 0, 0, 0, 0, 0, 0)
                .row("proof(3, #)", 0, 0, 0, 0, 0, 0, 0, 0)
                .row("proof(4, #)", 0, 0, 0, 0, 0, 0, 0, 0)
                .row("drop(#)", 0, 0, 0, 0, 0, 0, 0)
                .due(0, "all(1)")
                .refused("check(0, 0, 0) forge(0, 0, 1, 1) forge(4, 0, 1, 1) bend(0, 0, 0, 1)")
                .stays(0, "step(0, 0, 0)");
        Edge.promise(17, "NONE: no such SLOT.").given(HOUSE).refused("drop(#)", NO_SLOTS);
    }

    private static void promise18Proof() {
        Edge.promise(18, "Of a SLOT, what 0: kind (0 empty), 1: STEPS, 2: n, 3: m, i, a (of HELD, ABSENT 0), 4: b "
                + "(of others 0), 5: KEY (of WITHIN, HELD, ABSENT; of SPAN of its first entry; else 0), 6: LATEST "
                + "(of HELD; of ABSENT the other one's, NONE without one; else 0), 7: ABSENT's other KEY (0 "
                + "without).").given(HOUSE)
                .row("proof(0, #)", 1, 3, 5, 3, 0, 1, 0, 0)
                .row("proof(1, #)", 2, 3, 5, 2, 0, 0, 0, 0)
                .row("proof(2, #)", 3, 2, 5, 0, 0, 8, 3, 0)
                .row("proof(3, #)", 4, 2, 5, 0, 0, 77, 4, 9)
                .row("proof(4, #)", 5, 2, 5, 1, 4, 2, 0, 0)
                .row("proof(5, #)", 4, 0, 0, 0, 0, 0, NONE, 0)
                .row("proof(6, #)", 0, 0, 0, 0, 0, 0, 0, 0)
                .row("proof(15, #)", 0, 0, 0, 0, 0, 0, 0, 0)
                // Each in a SLOT where something else lay: nothing of that may be left.
                .given("absent(4, 1, 5, 77) span(3, 1, 5, 5, 5) grown(2, 1, 0, 0) within(1, 2, 1, 0) held(0, 2, 1, 5)")
                .row("proof(4, #)", 4, 2, 5, 0, 0, 77, 4, 9)
                .row("proof(3, #)", 5, 2, 5, 5, 5, 0, 0, 0)
                .row("proof(2, #)", 2, 0, 0, 0, 0, 0, 0, 0)
                .row("proof(1, #)", 1, 0, 1, 0, 0, 5, 0, 0)
                .row("proof(0, #)", 3, 0, 1, 0, 0, 5, 0, 0);
        Edge.promise(18, "NONE: no such SLOT, another what.").given(HOUSE)
                .refused("proof(#, 0)", NO_SLOTS)
                .refused("proof(0, #)", "-1 8 9 MIN MAX")
                .refused("proof(15, #)", "-1 8 MIN MAX");
    }

    private static void promise19Step() {
        Edge.promise(19, "Int j of STEP s of a SLOT's PROOF;").given(HOUSE)
                .sum("step(0, 0, #)", Model.joined(entry(1, 10), entry(2, 11)))
                .sum("step(0, 1, #)", entry(3, 12))
                .sum("step(0, 2, #)", entry(2, 14));
        Edge.promise(19, "0 if there is none such.").given(HOUSE)
                .stays(0, "step(#, 0, 0)", NO_SLOTS)
                .stays(0, "step(#, 0, 0)", "5 6 15")
                .stays(0, "step(0, #, 0)", "-1 3 4 MIN MAX 268435456 536870912")
                .stays(0, "step(4, #, 0)", "2 -1")
                .stays(0, "step(0, 0, #)", "-1 8 16 MIN MAX")
                .stays(0, "step(0, 1, #)", "-1 8 -8")
                .stays(0, "step(0, 2, #)", "-1 8 -8");
    }

    private static void promise20Bend() {
        int[] bent = Model.joined(entry(1, 10), entry(2, 11)).clone();
        bent[0] ^= -1;
        bent[7] ^= Integer.MIN_VALUE;
        Edge.promise(20, "Int j of STEP s is exclusive-ored by mask: true.").given(HOUSE)
                .stays(1, "bend(0, 0, 0, 0) bend(0, 2, 7, 0)")
                .due(1, "bend(0, 0, 0, -1)").due(1, "bend(0, 0, 7, MIN)")
                .sum("step(0, 0, #)", bent)
                .sum("step(0, 1, #)", entry(3, 12))
                .due(0, "check(0, 0, 0)")
                .due(1, "bend(0, 0, 0, MAX)").due(1, "bend(0, 0, 0, MIN)").due(0, "check(0, 0, 0)")
                .due(1, "bend(0, 0, 7, MIN)").due(1, "check(0, 0, 0)")
                .due(1, "bend(0, 2, 7, 1)").due(0, "check(0, 0, 0)").due(1, "bend(0, 2, 7, 1)")
                // The LOG's own SUMS are not bent with it.
                .due(1, "bend(0, 1, 3, 5)").given("within(6, 0, 5, 3)").due(1, "check(6, 0, 0)");
        Edge.promise(20, "Refused: no such STEP, int.").given(HOUSE)
                .refused("bend(#, 0, 0, 1)", NO_SLOTS)
                .refused("bend(#, 0, 0, 1)", "5 6 15")
                .refused("bend(0, #, 0, 1)", "-1 3 4 MIN MAX 268435456 536870912")
                .refused("bend(4, #, 0, 1)", "2 -1")
                .refused("bend(0, 0, #, 1)", "-1 8 16 MIN MAX")
                .refused("bend(0, 1, #, 1)", "-1 8 -8")
                .refused("bend(0, 2, #, 1)", "-1 8 -8");
    }

    private static void promise21Forge() {
        Edge.promise(21, "Entry k (from 0 on) of a WITHIN or SPAN is told with this KEY and VALUE: true.").given(HOUSE)
                .stays(1, "forge(0, 0, 1, 13) forge(4, 0, 2, 11) forge(4, 2, 8, 18)")
                .due(1, "forge(0, 0, MIN, MIN)").row("proof(0, #)", 1, 3, 5, 3, 0, Integer.MIN_VALUE, 0, 0)
                .due(0, "check(0, 0, 0)")
                .due(1, "forge(0, 0, 1, 4294967309)").due(0, "check(0, 0, 0)")
                .due(1, "forge(0, 0, 1, 13)").due(1, "check(0, 0, 0)")
                .due(1, "forge(4, 2, 8, 19)").due(2, "proof(4, 5)").due(0, "check(4, 2, 0)")
                .due(1, "forge(4, 2, 8, 18)").due(1, "check(4, 2, 0)")
                .due(1, "forge(4, 0, MAX, MAX)").due(Integer.MAX_VALUE, "proof(4, 5)").due(0, "check(4, 2, 0)")
                .due(1, "forge(4, 0, 2, 11)").due(1, "check(4, 2, 0)")
                // The LOG tells its entry as it is.
                .due(1, "forge(4, 1, 9, 9)").given("span(6, 1, 5, 1, 4)").due(1, "check(6, 2, 0)");
        Edge.promise(21, "Refused: another kind, no such entry.").given(HOUSE)
                .refused("forge(#, 0, 1, 1)", "1 2 3 5 6 15")
                .refused("forge(#, 0, 1, 1)", NO_SLOTS)
                .refused("forge(0, #, 1, 1)", "1 2 -1 MIN MAX")
                .refused("forge(4, #, 1, 1)", "3 4 40 -1 MIN MAX")
                .given("span(4, 1, 6, 6, 6)")
                .refused("forge(4, 0, 1, 1)")
                .given("grown(0, 0, 0, 6)")
                .refused("forge(0, 0, 1, 1)");
        Edge.promise(21, "no such entry.").given(Houses.FULL_LOG)
                .given("span(0, 0, 400, 7, 47)")
                .due(1, "forge(0, 39, 1, 1)")
                .refused("forge(0, 40, 1, 1)");
    }

    private static void promise22Check() {
        Edge.promise(22, "Whether a SLOT's PROOF is RIGHT for a READER's HEAD (of GROWN: for both): 1, 0.").given(HOUSE)
                .stays(1, "check(0, 0, 0) check(1, 1, 2) check(2, 2, 0) check(3, 2, 0) check(4, 2, 0)")
                .stays(0, "check(0, 1, 0) check(0, 2, 0) check(0, 3, 0)")
                .stays(0, "check(1, 2, 1) check(1, 1, 1) check(1, 2, 2) check(1, 1, 0) check(1, 0, 2) check(1, 1, 3)")
                .stays(0, "check(2, 0, 0) check(2, 1, 0) check(3, 0, 0) check(3, 1, 0) check(4, 0, 0) check(4, 1, 0)")
                .stays(0, "check(5, 0, 0) check(5, 3, 0)")
                .given("take(11, 2, 0)")
                .stays(1, "check(5, 11, 0)");
    }

    private static void promise22CheckNone() {
        Edge.promise(22, "NONE: no such SLOT, or it is empty;").given(HOUSE)
                .refused("check(#, 0, 0)", NO_SLOTS)
                .refused("check(#, 0, 0)", "6 9 15")
                .refused("check(6, 1, 2)");
        Edge.promise(22, "a READER has no HEAD (of GROWN the second one, too; of others it doesn't matter).")
                .given(HOUSE)
                .refused("check(0, #, 0)", "4 11 " + NO_READERS)
                .refused("check(2, #, 0)", "4 11 " + NO_READERS)
                .refused("check(1, #, 2)", "4 11 " + NO_READERS)
                .refused("check(1, 1, #)", "4 11 " + NO_READERS)
                .refused("check(1, 0, #)", "4 11 " + NO_READERS)
                .stays(1, "check(0, 0, #)", "4 11 " + NO_READERS)
                .stays(1, "check(2, 2, #)", "4 11 " + NO_READERS)
                .stays(1, "check(3, 2, #)", "4 11 " + NO_READERS)
                .stays(1, "check(4, 2, #)", "4 11 " + NO_READERS);
    }
}

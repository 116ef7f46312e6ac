/**
 * Edges of terms 1 and 2: SUMS, TOP, LOGS, MAP, TREE, HEAD. The long rows of numbers were reckoned from the
 * document's words by a program in another language, so that neither the class nor the Model made them.
 */
final class TermEdges {
    private static final int NONE = GlassLog.NONE;
    private static final int[] NOUGHT = new int[8];
    /** Two KEYS whose WAYS are alike in 56 bits. */
    private static final int ONE_DEEP = 66930743;
    private static final int OTHER_DEEP = 86239712;

    private TermEdges() { }

    static void run() {
        term1Mix();
        term1Entry();
        term1Joined();
        term1Peaks();
        term1Blocks();
        term1Top();
        term2Logs();
        term2Map();
        term2FirstWord();
        term2Way();
        term2Tree();
        term2Head();
    }

    private static void term1Mix() {
        Edge.term(1, "MIX of ints w0 .. w(n - 1): eight ints a0 .. a7, aj = (j + 1) * 1640531527 at first. For each "
                + "k from 0 on: a(k % 8) is exclusive-ored by wk; behind k with k % 8 = 7, and behind the last one "
                + "(once, if it is both), TURN. Then a0 is exclusive-ored by n, and TURN. TURN is six times: for j "
                + "from 0 to 7: aj becomes aj + a(j + 1), its bits round to the left by 7, exclusive-ored by a(j + "
                + "3) (places by 8, round; ints that go round). What a0 .. a7 are then is a SUM;")
                .given("open(2) add(0, 7, 70) add(0, 8, 80) add(0, 7, 71)")
                .sum("head(0, 1, 0, #)", new int[] {-48999328, 1854526683, 879398280, -919503963, 2002678793,
                    1495595770, -892940499, -99986342})
                .sum("head(0, 2, 0, #)", new int[] {-660812479, -1486480654, 876097185, -583191363, 10443135,
                    -1735694423, 1490443953, -384420264})
                .sum("head(0, 3, 0, #)", new int[] {-1233695604, -674523518, 1884511594, 1596188673, 930906120,
                    1556952481, -1803028460, 756053987})
                .sum("head(0, 1, 1, #)", new int[] {-573527503, 2064500671, 52353167, 2025386511, 455443570, 446480085,
                    -1249265125, 478696937})
                .sum("head(0, 2, 1, #)", new int[] {204016347, -425683, -1305561365, 617440889, 1127683780, 1411187975,
                    -191682357, 1090855911})
                .sum("head(0, 3, 1, #)", new int[] {-341751346, -755121984, 97935318, 1295457443, 250628744, 1815730709,
                    -373841183, -1518971645})
                .sum("head(0, 2, 2, #)", new int[] {1047201478, -717614231, 1388306184, -1796691009, 1340823172,
                    2140138888, -16133965, 1250477661})
                .sum("head(0, 3, 2, #)", new int[] {162443997, 418645219, 393375283, 2060580720, -2082806363,
                    1881267183, 17685035, 1474894782});
        // No call mixes 8 or 16 words, so that one TURN is enough behind the last of them is seen of the Model alone.
        int[] eight = Model.mix(1, 2, 3, 4, 5, 6, 7, 8);
        int[] sixteen = Model.mix(1, 2, 3, 4, 5, 6, 7, 8, 9, 10, 11, 12, 13, 14, 15, 16);
        Due.due("term 1: a0 of eight words", eight[0], -1220346509);
        Due.due("term 1: a7 of eight words", eight[7], 1141089369);
        Due.due("term 1: a0 of sixteen words", sixteen[0], -1310584170);
        Due.due("term 1: a7 of sixteen words", sixteen[7], -2129071944);
    }

    private static void term1Entry() {
        String words = "An ENTRY is a KEY (an int) and a VALUE (a long). Its SUM: MIX of 1, KEY, the higher, the "
                + "lower half of VALUE.";
        Edge.term(1, words).given("open(0) add(0, 0, 0)")
                .sum("head(0, 1, 0, #)", new int[] {-1008604633, -1102687023, 76519048, 972195822, 194620649,
                    1481300497, -851595990, -2113534987});
        Edge.term(1, words).given("open(0) add(0, MIN, MIN)")
                .sum("head(0, 1, 0, #)", new int[] {431306225, -2116375884, 1331331487, 1687412384, -195361260,
                    -534588602, -851737255, -186443974});
        Edge.term(1, words).given("open(0) add(0, MAX, MAX)")
                .sum("head(0, 1, 0, #)", new int[] {-368316300, -939189454, 1625742001, -120747883, -2131398929,
                    782832439, 1534613430, 1885422117});
        Edge.term(1, words).given("open(0) add(0, -1, -1)")
                .sum("head(0, 1, 0, #)", new int[] {1840843203, -787100163, 1650500209, -108365329, -765968464,
                    -1637058529, -561437668, 412864608});
        // 2^31, 2^32 and -2^31: where a half begins, and where the lower half alone is negative.
        Edge.term(1, words).given("open(0) add(0, 5, 2147483648)")
                .sum("head(0, 1, 0, #)", new int[] {731312506, 1558767154, -1240223381, -579508581, -2083497584,
                    -1662700353, 14582443, 1041492248});
        Edge.term(1, words).given("open(0) add(0, 5, 4294967296)")
                .sum("head(0, 1, 0, #)", new int[] {-233026616, 1697612449, -2077596808, 1367600308, -38646928,
                    -1842654256, -910858368, 1228238029});
        Edge.term(1, words).given("open(0) add(0, 5, -2147483648)")
                .sum("head(0, 1, 0, #)", new int[] {-1657096708, -1196575928, -30812607, 406056542, -378189405,
                    872075484, -570842309, 2029513824});
    }

    private static void term1Joined() {
        int[] entry = Model.sum(new Model.Entry(6, 6));
        int[] two = Model.joined(entry, entry);
        int[] four = Model.joined(two, two);
        Edge.term(1, "JOINED of two SUMS: MIX of 2, the eight of the first, the eight of the second. SUM of 2^r "
                + "entries from a on: of one its own; else JOINED of those of both halves.")
                .given("open(0) " + Calls.times(8, "add(0, 6, 6)"))
                .sum("head(0, 1, 0, #)", entry)
                .sum("head(0, 2, 0, #)", two)
                .sum("head(0, 4, 0, #)", four)
                .sum("head(0, 8, 0, #)", Model.joined(four, four));
    }

    private static void term1Peaks() {
        Edge.term(1, "PEAKS of a count n: blocks of 2^r entries, the greatest first, as n is the sum of such.")
                .given(Houses.FULL_LOG)
                .due(0, "grown(0, 0, 0, 0)").due(1, "grown(0, 0, 1, 1)").due(1, "grown(0, 0, 2, 2)")
                .due(2, "grown(0, 0, 3, 3)")
                .due(7, "grown(0, 0, 127, 127)").due(1, "grown(0, 0, 128, 128)").due(2, "grown(0, 0, 129, 129)")
                .due(8, "grown(0, 0, 255, 255)").due(1, "grown(0, 0, 256, 256)").due(2, "grown(0, 0, 257, 257)")
                .due(6, "grown(0, 0, 399, 399)").due(3, "grown(0, 0, 400, 400)")
                .sum("step(0, 0, #)", sumOf(0, 256)).sum("step(0, 1, #)", sumOf(256, 128))
                .sum("step(0, 2, #)", sumOf(384, 16));
    }

    /** The SUM of 2^r entries of FULL_LOG. */
    private static int[] sumOf(int from, int size) {
        int half = size / 2;
        return size == 1 ? Model.sum(new Model.Entry(from, from))
                : Model.joined(sumOf(from, half), sumOf(from + half, half));
    }

    private static void term1Blocks() {
        Edge.term(1, "BLOCKS from a to b: the greatest block of 2^r entries from a on with a divisible by 2^r and a "
                + "+ 2^r not above b; then likewise from its end on, up to b. (PEAKS of n are BLOCKS from 0 to n.)")
                .given(Houses.FULL_LOG)
                // 1, 2, 4, .. 128 up to 256, then 128 and 16.
                .due(10, "within(0, 0, 400, 0)")
                .sum("step(0, 0, #)", sumOf(1, 1)).sum("step(0, 7, #)", sumOf(128, 128))
                .sum("step(0, 8, #)", sumOf(256, 128)).sum("step(0, 9, #)", sumOf(384, 16))
                .due(9, "within(0, 0, 400, 256)")
                .sum("step(0, 0, #)", sumOf(0, 256)).sum("step(0, 7, #)", sumOf(320, 64))
                .sum("step(0, 8, #)", sumOf(384, 16))
                .due(0, "within(0, 0, 1, 0)").due(1, "within(0, 0, 2, 0)").due(1, "within(0, 0, 2, 1)")
                .due(4, "grown(0, 0, 128, 400)").due(9, "grown(0, 0, 255, 256)").due(10, "grown(0, 0, 255, 257)")
                .due(2, "grown(0, 0, 256, 257)").due(11, "grown(0, 0, 1, 400)")
                .due(3, "grown(0, 0, 0, 400)").due(3, "span(0, 0, 400, 0, 0)").due(3, "span(0, 0, 400, 400, 400)");
        // Of each size the first block and the last one that 400 entries have, as the last STEP of GROWN over it.
        Edge each = Edge.term(1, "the greatest block of 2^r entries from a on").given(Houses.FULL_LOG);
        for (int size = 1; size <= 256; size *= 2) {
            for (int from : new int[] {0, (400 / size - 1) * size}) {
                each.due(Integer.bitCount(from) + 1, "grown(0, 0, " + from + ", " + (from + size) + ")")
                        .due(sumOf(from, size)[7], "step(0, " + Integer.bitCount(from) + ", 7)");
            }
        }
    }

    private static void term1Top() {
        // READER n has the HEAD at n: GROWN from each m to each n, and WITHIN of each entry.
        Edge every = Edge.term(1, "TOP of blocks that follow one another from 0 to n: as long as two neighbours are "
                + "of one size, the first of them from a place divisible by twice that, they are one, their SUMS "
                + "JOINED (they are PEAKS of n then); then, from the last one to the first, JOINED of the one ahead "
                + "and what came so far.")
                .given("open(0) " + Calls.times(11, "add(0, #, #)") + Calls.times(12, "take(#, 0, #)"));
        for (int n = 0; n <= 11; n++) {
            for (int m = 0; m <= n; m++) {
                every.given("grown(0, 0, " + m + ", " + n + ")").due(1, "check(0, " + m + ", " + n + ")");
            }
            for (int i = 0; i < n; i++) {
                every.given("within(0, 0, " + n + ", " + i + ")").due(1, "check(0, " + n + ", 0)");
            }
        }
        Edge whole = Edge.term(1, "TOP of blocks that follow one another from 0 to n").given(Houses.FULL_LOG)
                .sum("head(0, 400, 0, #)", new int[] {871754943, 1645933449, -411926902, 1673727603, -891193936,
                    1319377452, 661842667, 26797401})
                .sum("head(0, 256, 0, #)", sumOf(0, 256))
                .given("take(0, 0, 400)");
        for (int i : new int[] {0, 1, 254, 255, 256, 257, 383, 384, 398, 399}) {
            whole.given("within(0, 0, 400, " + i + ")").due(1, "check(0, 0, 0)");
        }
        Edge.term(1, "TOP of no block is NOUGHT.")
                .given("open(3)").sum("head(0, 0, 0, #)", NOUGHT)
                .given("add(0, 1, 1) add(0, 2, 2)").sum("head(0, 0, 0, #)", NOUGHT)
                .given("prune(0, 2)").sum("head(0, 0, 0, #)", NOUGHT)
                .given("fork(0, 0)").sum("head(1, 0, 0, #)", NOUGHT)
                .given("take(0, 0, 0) span(0, 0, 0, 0, 0)").due(1, "check(0, 0, 0)")
                .given("grown(0, 0, 0, 0)").due(1, "check(0, 0, 0)");
        Edge.term(1, "NOUGHT is eight times 0.")
                .given("open(3)").sum("head(0, 0, 0, #)", NOUGHT).sum("head(0, 0, 1, #)", NOUGHT);
    }

    private static void term2Logs() {
        Edge.term(2, "LOGS 0 .. 5, as they are opened, each of a KEEPER 0 .. 3, at most 400 ENTRIES, numbered from "
                + "0 on.")
                .given("open(0) open(3) open(1) open(2) open(0) open(3)")
                .row("count(#, 2)", 0, 3, 1, 2, 0, 3)
                .due(1, "add(0, 9, 9)").due(1, "add(5, 9, 9)")
                .due(0, "latest(0, 1, 9)").due(0, "latest(5, 1, 9)")
                .refused("count(6, 0) count(-1, 0) open(0) open(4) open(-1)");
        Edge.term(2, "at most 400 ENTRIES, numbered from 0 on.").given(Houses.FULL_LOG)
                .due(0, "latest(0, 400, 0)").due(399, "latest(0, 400, 399)")
                .due(400, "count(0, 0)")
                .refused("add(0, 1, 1) keep(0, 400) within(0, 0, 400, 400) within(0, 0, 401, 400)");
    }

    private static void term2Map() {
        Edge.term(2, "THE MAP of a LOG at a count n: for each KEY of its first n entries its LATEST: the last of "
                + "these with that KEY;")
                .given("open(0) add(0, 5, 1) add(0, 6, 1) add(0, 5, 1)")
                .row("latest(0, #, 5)", NONE, 0, 0, 2)
                .row("latest(0, #, 6)", NONE, NONE, 1, 1)
                .due(2, "count(0, 3)");
        Edge.term(2, "but not a KEY that is HIDDEN since a count c, if n is c or more;")
                .given("open(0) hide(0, 4) add(0, 4, 1) add(0, 5, 1) add(0, 6, 1) hide(0, 5) add(0, 5, 1) hide(0, 6)")
                .row("latest(0, #, 4)", NONE, NONE, NONE, NONE, NONE)
                .row("latest(0, #, 5)", NONE, NONE, 1, NONE, NONE)
                .row("latest(0, #, 6)", NONE, NONE, NONE, 2, NONE)
                .due(0, "count(0, 3)");
        Edge.term(2, "and of one that LAGS since c the last of the first c (if n is c or more).")
                .given("open(0) lag(0, 4) add(0, 4, 1) add(0, 5, 1) add(0, 6, 1) lag(0, 5) add(0, 5, 1) "
                        + "add(0, 6, 1) lag(0, 6)")
                .row("latest(0, #, 4)", NONE, NONE, NONE, NONE, NONE, NONE)
                .row("latest(0, #, 5)", NONE, NONE, 1, 1, 1, 1)
                .row("latest(0, #, 6)", NONE, NONE, NONE, 2, 2, 4)
                .due(2, "count(0, 3)")
                .given("add(0, 6, 1)")
                .due(4, "latest(0, 6, 6)");
    }

    private static void term2FirstWord() {
        Edge.term(2, "(A KEY that is HIDDEN or LAGS stays so; the first word counts.)")
                .given("open(0) add(0, 5, 1) add(0, 6, 1) hide(0, 5) lag(0, 6)")
                .refused("lag(0, 5) hide(0, 6) hide(0, 5) lag(0, 6)")
                .due(0, "lag(0, 5)").due(0, "hide(0, 6)")
                .given(Calls.times(10, "add(0, 5, #)") + Calls.times(10, "add(0, 6, #)"))
                .due(NONE, "latest(0, 22, 5)").due(1, "latest(0, 22, 6)")
                .row("count(0, #)", 22, 0, 0, 1, 1, 1)
                .given("fork(0, 22)")
                .refused("lag(1, 5) hide(1, 6) hide(1, 5) lag(1, 6)")
                .due(NONE, "latest(1, 22, 5)").due(1, "latest(1, 22, 6)");
    }

    private static void term2Way() {
        // Of KEYS 7 and 8 the WAYS begin with 0001 and 0100: they part at the second bit, 7's to the 0.
        int[] seven = Model.mix(5, 7, 0);
        int[] eight = Model.mix(5, 8, 1);
        Edge.term(2, "A KEY's WAY: bits of MIX of 4, KEY: a0's highest first.")
                .given("open(0) add(0, 7, 1) add(0, 8, 1)")
                .sum("head(0, 2, 1, #)", Model.joined(Model.joined(seven, eight), NOUGHT))
                .due(2, "held(0, 0, 2, 7)")
                .sum("step(0, 0, #)", NOUGHT).sum("step(0, 1, #)", eight);
        // Alike in all of a0 and in 24 bits of a1, they part at the 57th.
        Edge deep = Edge.term(2, "A KEY's WAY: bits of MIX of 4, KEY: a0's highest first.")
                .given("open(0) add(0, " + ONE_DEEP + ", 1) take(0, 0, 1)")
                .due(0, "absent(0, 0, 1, " + OTHER_DEEP + ")")
                .row("proof(0, #)", 4, 0, 1, 0, 0, OTHER_DEEP, 0, ONE_DEEP)
                .due(1, "check(0, 0, 0)")
                .given("add(0, " + OTHER_DEEP + ", 1) take(0, 0, 2)")
                .due(57, "held(0, 0, 2, " + OTHER_DEEP + ")")
                .sum("step(0, 55, #)", NOUGHT)
                .sum("step(0, 56, #)", Model.mix(5, ONE_DEEP, 0))
                .stays(0, "step(0, 57, 0)")
                .due(1, "check(0, 0, 0)");
        for (int s : new int[] {0, 15, 16, 31, 32, 55, 56}) {
            deep.given("bend(0, " + s + ", 7, MIN)").due(0, "check(0, 0, 0)")
                    .given("bend(0, " + s + ", 7, MIN)").due(1, "check(0, 0, 0)");
        }
        deep.given("image() drop(0) back()").due(1, "check(0, 0, 0)");
    }

    private static void term2Tree() {
        Edge.term(2, "TREE of some KEYS that are alike in the first d bits of their WAYS: none: NOUGHT;")
                .given("open(0) add(0, 7, 1) add(0, 8, 1) hide(0, 8) hide(0, 7)")
                .sum("head(0, 0, 1, #)", NOUGHT)
                .sum("head(0, 2, 1, #)", NOUGHT)
                .due(0, "absent(0, 0, 2, 7)")
                .given("take(0, 0, 2)").due(1, "check(0, 0, 0)");
        Edge.term(2, "one alone: MIX of 5, KEY, its LATEST;")
                .given("open(0) add(0, 7, 1) add(0, 7, 1) add(0, 8, 1) hide(0, 8)")
                .sum("head(0, 1, 1, #)", Model.mix(5, 7, 0))
                .sum("head(0, 2, 1, #)", Model.mix(5, 7, 1))
                .sum("head(0, 3, 1, #)", Model.mix(5, 7, 1))
                .due(0, "held(0, 0, 3, 7)")
                .given("open(0) add(1, MIN, 1) add(1, MIN, 1)")
                .sum("head(1, 1, 1, #)", new int[] {-1557134465, -1278018143, -382062, -590167630, 547591896,
                    -1407016314, -732937957, -1900607821});
        Edge.term(2, "else JOINED of the TREES of those with bit d 0, and with 1.").given(Houses.FULL_LOG)
                .sum("head(0, 400, 1, #)", new int[] {-1606031581, -172079553, 235524762, 844335229, -1251983721,
                    -1270727996, 1504431273, 335308980});
    }

    private static void term2Head() {
        String words = "HEAD of a LOG at n: n, its TOP (of its first n entries), its MAP's TREE, and the MARK: MIX "
                + "of 6, KEEPER, the KEEPER's SECRET (1000003 * KEEPER + 77), n, the eight of TOP, of TREE.";
        int[][] empty = {
            {1414472702, -437522063, -1469461198, 289467440, 222702360, -1035565495, -1855923649, -1269077043},
            {-1238695550, 248375801, -1375152652, 118741466, 1577010252, -1270162038, -1702388883, -1299877948},
            {555068825, 942558045, 774235620, 1499812427, 629900495, -1903081414, -2075890960, -1937110240},
            {-1603048278, 1438442584, -1713278222, 1763133220, -1529783517, -1915957285, -1570393764, -1634454481}};
        for (int keeper = 0; keeper < 4; keeper++) {
            Edge.term(2, words).given("open(" + keeper + ")")
                    .sum("head(0, 0, 2, #)", empty[keeper])
                    .given("add(0, 1, 1)")
                    .sum("head(0, 0, 2, #)", empty[keeper])
                    .due(1, "take(0, 0, 0)").due(keeper, "reader(0, 2)");
        }
    }
}

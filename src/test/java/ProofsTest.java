/** Promises 12 to 22: within, grown, held, absent, span, drop, proof, step, bend, forge, check. */
public final class ProofsTest {
    private static final int NONE = GlassLog.NONE;

    private static GlassLog filled(int entries) {
        GlassLog x = new GlassLog();
        x.open(0);
        for (int k = 0; k < entries; k++) {
            x.add(0, k, 100L + k);
        }
        return x;
    }

    private static void proofIs(GlassLog x, int slot, int... due) {
        for (int what = 0; what < due.length; what++) {
            Due.due("proof(" + slot + ", " + what + ")", x.proof(slot, what), due[what]);
        }
    }

    private static void stepIs(GlassLog x, int slot, int s, int[] sum) {
        for (int j = 0; j < 8; j++) {
            Due.due("step(" + slot + ", " + s + ", " + j + ")", x.step(slot, s, j), sum[j]);
        }
    }

    private static int[] entry(int k) {
        return Model.sum(new Model.Entry(k, 100L + k));
    }

    private static void promise12Within() {
        GlassLog x = filled(6);
        Due.due("within(16, ..)", x.within(16, 0, 6, 0), NONE);
        Due.due("within(-1, ..)", x.within(-1, 0, 6, 0), NONE);
        Due.due("within of log 1", x.within(0, 1, 0, 0), NONE);
        Due.due("within at 7", x.within(0, 0, 7, 0), NONE);
        Due.due("within at -1", x.within(0, 0, -1, -1), NONE);
        Due.due("within, i = n", x.within(0, 0, 3, 3), NONE);
        Due.due("within, i = -1", x.within(0, 0, 3, -1), NONE);
        Due.due("within at 0", x.within(0, 0, 0, 0), NONE);
        Due.due("nothing came", x.all(1), 0);
        // BLOCKS from 0 to 3: 0 1, 2; from 4 to 6: 4 5.
        Due.due("within of 3", x.within(15, 0, 6, 3), 3);
        proofIs(x, 15, 1, 3, 6, 3, 0, 3, 0, 0, NONE);
        stepIs(x, 15, 0, Model.joined(entry(0), entry(1)));
        stepIs(x, 15, 1, entry(2));
        stepIs(x, 15, 2, Model.joined(entry(4), entry(5)));
        x.prune(0, 1);
        Due.due("within of a gone one", x.within(15, 0, 6, 0), NONE);
        Due.due("the earlier one stays", x.proof(15, 3), 3);
        Due.due("within of one alone", x.within(14, 0, 1, 0), NONE);
        for (int i = 1; i < 6; i++) {
            x.take(i, 0, 6);
            x.within(i, 0, 6, i);
            Due.due("check of " + i, x.check(i, i, NONE), 1);
        }
    }

    private static void promise13Grown() {
        GlassLog x = filled(7);
        Due.due("grown(16, ..)", x.grown(16, 0, 0, 0), NONE);
        Due.due("grown of log 1", x.grown(0, 1, 0, 0), NONE);
        Due.due("grown, m = -1", x.grown(0, 0, -1, 3), NONE);
        Due.due("grown, m above n", x.grown(0, 0, 4, 3), NONE);
        Due.due("grown, n = 8", x.grown(0, 0, 4, 8), NONE);
        Due.due("grown, both 8", x.grown(0, 0, 8, 8), NONE);
        Due.due("nothing came", x.all(1), 0);
        Due.due("grown, 0 to 0", x.grown(0, 0, 0, 0), 0);
        // PEAKS of 3: 0 1, 2; BLOCKS from 3 to 7: 3, 4 5, 6.
        Due.due("grown, 3 to 7", x.grown(1, 0, 3, 7), 5);
        proofIs(x, 1, 2, 5, 7, 3, 0, 0, 0, 0, NONE);
        stepIs(x, 1, 0, Model.joined(entry(0), entry(1)));
        stepIs(x, 1, 1, entry(2));
        stepIs(x, 1, 2, entry(3));
        stepIs(x, 1, 3, Model.joined(entry(4), entry(5)));
        stepIs(x, 1, 4, entry(6));
        x.prune(0, 7);
        Due.due("grown of gone ones", x.grown(2, 0, 3, 7), 5);
    }

    private static void promise14Held() {
        GlassLog x = filled(3);
        Due.due("held(16, ..)", x.held(16, 0, 3, 1), NONE);
        Due.due("held of log 1", x.held(0, 1, 0, 1), NONE);
        Due.due("held at 4", x.held(0, 0, 4, 1), NONE);
        Due.due("held at -1", x.held(0, 0, -1, 1), NONE);
        Due.due("held of none", x.held(0, 0, 3, 9), NONE);
        Due.due("held ahead of it", x.held(0, 0, 2, 2), NONE);
        Due.due("nothing came", x.all(1), 0);
        Due.due("held of one alone", x.held(0, 0, 1, 0), 0);
        proofIs(x, 0, 3, 0, 1, 0, 0, 0, 0, 0, NONE);
        x.add(0, 1, 5L);
        x.lag(0, 2);
        x.add(0, 2, 5L);
        Due.due("held of one that lags", x.held(3, 0, 5, 2) >= 1, true);
        proofIs(x, 3, 3, x.proof(3, 1), 5, 0, 0, 2, 2, 0);
        x.held(4, 0, 5, 1);
        proofIs(x, 4, 3, x.proof(4, 1), 5, 0, 0, 1, 3, 0);
        x.take(0, 0, 5);
        Due.due("check of 2", x.check(3, 0, 0), 1);
        Due.due("check of 1", x.check(4, 0, 0), 1);
        x.hide(0, 0);
        Due.due("held of a hidden one", x.held(3, 0, 5, 0), NONE);
        Due.due("the earlier one stays", x.proof(3, 5), 2);
        Due.due("held ahead of the hiding", x.held(3, 0, 4, 0) >= 1, true);
    }

    private static void promise15Absent() {
        GlassLog x = filled(0);
        Due.due("absent(16, ..)", x.absent(16, 0, 0, 1), NONE);
        Due.due("absent of log 1", x.absent(0, 1, 0, 1), NONE);
        Due.due("absent at 1", x.absent(0, 0, 1, 1), NONE);
        Due.due("absent of an empty one", x.absent(0, 0, 0, 77), 0);
        proofIs(x, 0, 4, 0, 0, 0, 0, 77, NONE, 0, NONE);
        x.take(0, 0, 0);
        Due.due("its check", x.check(0, 0, 0), 1);
        x.add(0, 5, 1L);
        Due.due("absent of what is there", x.absent(0, 0, 1, 5), NONE);
        Due.due("the earlier one stays", x.proof(0, 5), 77);
        Due.due("absent beside one alone", x.absent(1, 0, 1, 77), 0);
        proofIs(x, 1, 4, 0, 1, 0, 0, 77, 0, 5, NONE);
        x.take(1, 0, 1);
        Due.due("its check", x.check(1, 1, 0), 1);
        Due.due("not for the other head", x.check(1, 0, 0), 0);
        bothEndsOfAWay();
        deepWays();
    }

    /** Among some KEYS a WAY ends where another one is alone, or at NOUGHT; both must come. */
    private static void bothEndsOfAWay() {
        GlassLog x = filled(5);
        x.take(0, 0, 5);
        int besides = 0;
        int noughts = 0;
        for (int key = 100; key < 160; key++) {
            x.absent(2, 0, 5, key);
            Due.due("absent " + key + " is right", x.check(2, 0, 0), 1);
            int other = x.proof(2, 7);
            if (x.proof(2, 6) == NONE) {
                noughts++;
                Due.due("no other key", other, 0);
            } else {
                besides++;
                Due.due("the other's latest", x.proof(2, 6), x.latest(0, 5, other));
            }
        }
        Due.due("some end beside another one", besides > 0, true);
        Due.due("some end at nought", noughts > 0, true);
    }

    /** Two KEYS whose WAYS are alike in more than the first int. */
    private static void deepWays() {
        int[] pair = alikePair();
        int alike = 0;
        while (Model.bit(pair[0], alike) == Model.bit(pair[1], alike)) {
            alike++;
        }
        Due.due("more than an int is alike", alike >= 32, true);
        GlassLog x = filled(3);
        x.add(0, pair[0], 1L);
        x.take(0, 0, 4);
        int shallow = x.absent(0, 0, 4, pair[1]);
        Due.due("beside the one like it", x.proof(0, 7), pair[0]);
        Due.due("is right", x.check(0, 0, 0), 1);
        x.add(0, pair[1], 2L);
        x.take(0, 0, 5);
        Due.due("held goes as deep as they are alike", x.held(1, 0, 5, pair[1]), alike + 1);
        Due.due("is right", x.check(1, 0, 0), 1);
        Due.due("the other was not", shallow <= 4, true);
        for (int s = 4; s < alike; s++) {
            stepIs(x, 1, s, new int[8]);
        }
        stepIs(x, 1, alike, Model.mix(5, pair[0], 3));
        x.image();
        x.drop(1);
        x.back();
        Due.due("deep one after back()", x.check(1, 0, 0), 1);
    }

    private static int[] alikePair() {
        java.util.Map<Integer, Integer> seen = new java.util.HashMap<>();
        for (int key = 1000; key < 1_000_000; key++) {
            Integer before = seen.put(Model.mix(4, key)[0], key);
            if (before != null) {
                return new int[] {before, key};
            }
        }
        return new int[] {0, 0};
    }

    private static void promise16Span() {
        GlassLog x = filled(60);
        Due.due("span(16, ..)", x.span(16, 0, 60, 0, 1), NONE);
        Due.due("span of log 1", x.span(0, 1, 0, 0, 0), NONE);
        Due.due("span at 61", x.span(0, 0, 61, 0, 1), NONE);
        Due.due("span, a = -1", x.span(0, 0, 60, -1, 1), NONE);
        Due.due("span, a above b", x.span(0, 0, 60, 2, 1), NONE);
        Due.due("span, b above n", x.span(0, 0, 50, 49, 51), NONE);
        Due.due("span of 41", x.span(0, 0, 60, 3, 44), NONE);
        Due.due("span of MIN to MAX", x.span(0, 0, 60, Integer.MIN_VALUE, Integer.MAX_VALUE), NONE);
        Due.due("nothing came", x.all(1), 0);
        x.take(0, 0, 60);
        // BLOCKS from 0 to 3: 0 1, 2; from 43 to 60: 43, 44 .. 47, 48 .. 55, 56 .. 59.
        Due.due("span of 40", x.span(0, 0, 60, 3, 43), 6);
        proofIs(x, 0, 5, 6, 60, 3, 43, 3, 0, 0, NONE);
        Due.due("its check", x.check(0, 0, 0), 1);
        Due.due("forge its last", x.forge(0, 39, 42, 143L), true);
        Due.due("its check", x.check(0, 0, 0), 0);
        Due.due("forge it back", x.forge(0, 39, 42, 142L), true);
        Due.due("its check", x.check(0, 0, 0), 1);
        Due.due("span of none", x.span(1, 0, 60, 7, 7), 9);
        proofIs(x, 1, 5, 9, 60, 7, 7, 0, 0, 0, NONE);
        Due.due("its check", x.check(1, 0, 0), 1);
        Due.due("forge none", x.forge(1, 0, 1, 1L), false);
        Due.due("span of none at the end", x.span(1, 0, 60, 60, 60), 4);
        Due.due("its check", x.check(1, 0, 0), 1);
        Due.due("span of none of none", x.span(1, 0, 0, 0, 0), 0);
        x.prune(0, 5);
        Due.due("span with a gone one", x.span(0, 0, 60, 4, 8), NONE);
        Due.due("span behind gone ones", x.span(0, 0, 60, 5, 8) > 0, true);
        Due.due("its check", x.check(0, 0, 0), 1);
        Due.due("span of none among gone ones", x.span(0, 0, 60, 2, 2) > 0, true);
    }

    private static void promises17And18DropProof() {
        GlassLog x = filled(4);
        x.within(0, 0, 4, 1);
        x.grown(1, 0, 1, 4);
        x.held(2, 0, 4, 1);
        x.absent(3, 0, 4, 9);
        x.span(4, 0, 4, 1, 2);
        for (int k = 0; k < 5; k++) {
            Due.due("kind in slot " + k, x.proof(k, 0), k + 1);
            Due.due("drop(" + k + ")", x.drop(k), k + 1);
            proofIs(x, k, 0, 0, 0, 0, 0, 0, 0, 0, NONE);
            Due.due("no step is left", x.step(k, 0, 0), 0);
            Due.due("drop(" + k + ") again", x.drop(k), 0);
            Due.due("all(1)", x.all(1), 4 - k);
        }
        for (int slot : new int[] {-1, 16, Integer.MIN_VALUE, Integer.MAX_VALUE}) {
            Due.due("drop(" + slot + ")", x.drop(slot), NONE);
            Due.due("proof(" + slot + ", 0)", x.proof(slot, 0), NONE);
        }
        Due.due("proof(0, 8)", x.proof(0, 8), NONE);
        Due.due("proof(0, -1)", x.proof(0, -1), NONE);
    }

    private static void promises19And20StepBend() {
        GlassLog x = filled(3);
        x.take(0, 0, 3);
        x.within(0, 0, 3, 0);
        int was = x.step(0, 1, 7);
        Due.due("bend by 0", x.bend(0, 1, 7, 0), true);
        Due.due("as it was", x.step(0, 1, 7), was);
        Due.due("bend", x.bend(0, 1, 7, 0x55), true);
        Due.due("bent", x.step(0, 1, 7), was ^ 0x55);
        Due.due("bent more", x.bend(0, 1, 7, 0xAA), true);
        Due.due("more", x.step(0, 1, 7), was ^ 0xFF);
        int[][] none = {{0, 2, 0}, {0, -1, 0}, {0, 0, 8}, {0, 0, -1}, {1, 0, 0}, {16, 0, 0}, {-1, 0, 0},
            {0, Integer.MAX_VALUE, 0}, {0, 1 << 29, 0}};
        for (int[] at : none) {
            String text = "(" + at[0] + ", " + at[1] + ", " + at[2] + ")";
            Due.due("step" + text, x.step(at[0], at[1], at[2]), 0);
            Due.due("bend" + text, x.bend(at[0], at[1], at[2], 1), false);
        }
        Due.due("each int of each step counts", everyBendIsSeen(), true);
    }

    private static boolean everyBendIsSeen() {
        GlassLog x = filled(7);
        x.take(0, 0, 7);
        x.take(1, 0, 5);
        x.within(1, 0, 7, 3);
        x.grown(2, 0, 5, 7);
        x.held(3, 0, 7, 3);
        x.absent(4, 0, 7, 33);
        x.span(5, 0, 7, 2, 4);
        boolean seen = true;
        for (int kind = 1; kind <= 5; kind++) {
            int reader = kind == 2 ? 1 : 0;
            for (int s = 0; s < x.proof(kind, 1); s++) {
                for (int j = 0; j < 8; j += 7) {
                    x.bend(kind, s, j, 1 << 31);
                    seen &= x.check(kind, reader, 0) == 0;
                    x.bend(kind, s, j, 1 << 31);
                    seen &= x.check(kind, reader, 0) == 1;
                }
            }
        }
        return seen;
    }

    private static void promise21Forge() {
        GlassLog x = filled(5);
        x.take(0, 0, 5);
        x.within(0, 0, 5, 2);
        Due.due("forge with another key", x.forge(0, 0, 9, 102L), true);
        Due.due("it is told", x.proof(0, 5), 9);
        Due.due("i stays", x.proof(0, 3), 2);
        Due.due("not right", x.check(0, 0, 0), 0);
        Due.due("forge with another higher half", x.forge(0, 0, 2, 102L | 1L << 40), true);
        Due.due("not right", x.check(0, 0, 0), 0);
        Due.due("forge back", x.forge(0, 0, 2, 102L), true);
        Due.due("right", x.check(0, 0, 0), 1);
        Due.due("forge entry 1 of within", x.forge(0, 1, 9, 9L), false);
        Due.due("forge entry -1", x.forge(0, -1, 9, 9L), false);
        x.span(1, 0, 5, 1, 4);
        Due.due("forge entry 3 of three", x.forge(1, 3, 9, 9L), false);
        Due.due("forge entry 2 of three", x.forge(1, 2, 9, 9L), true);
        Due.due("its first stays", x.proof(1, 5), 1);
        Due.due("not right", x.check(1, 0, 0), 0);
        x.grown(2, 0, 1, 5);
        x.held(3, 0, 5, 1);
        x.absent(4, 0, 5, 9);
        for (int slot : new int[] {2, 3, 4, 5, 16, -1}) {
            Due.due("forge in slot " + slot, x.forge(slot, 0, 9, 9L), false);
        }
        Due.due("the log stays", x.latest(0, 5, 9), NONE);
    }

    private static void promise22Check() {
        GlassLog x = filled(5);
        x.within(0, 0, 5, 2);
        Due.due("no head", x.check(0, 0, 0), NONE);
        x.take(0, 0, 5);
        x.take(1, 0, 4);
        Due.due("right", x.check(0, 0, 0), 1);
        Due.due("the newer one doesn't matter", x.check(0, 0, 99), 1);
        Due.due("of another n", x.check(0, 1, 0), 0);
        Due.due("reader 12", x.check(0, 12, 0), NONE);
        Due.due("reader -1", x.check(0, -1, 0), NONE);
        Due.due("empty slot", x.check(1, 0, 0), NONE);
        Due.due("slot 16", x.check(16, 0, 0), NONE);
        Due.due("slot -1", x.check(-1, 0, 0), NONE);
        x.grown(1, 0, 4, 5);
        Due.due("grown", x.check(1, 1, 0), 1);
        Due.due("grown, turned round", x.check(1, 0, 1), 0);
        Due.due("grown, twice the newer one", x.check(1, 0, 0), 0);
        Due.due("grown, twice the older one", x.check(1, 1, 1), 0);
        Due.due("grown, second without head", x.check(1, 1, 5), NONE);
        Due.due("grown, second is none", x.check(1, 1, 12), NONE);
        Due.due("grown, first without head", x.check(1, 5, 0), NONE);
        headsOfAnotherFace();
    }

    private static void headsOfAnotherFace() {
        GlassLog x = filled(5);
        x.fork(0, 4);
        x.add(1, 50, 1L);
        x.take(0, 0, 5);
        x.take(1, 1, 5);
        x.take(2, 1, 4);
        x.within(0, 0, 5, 4);
        x.held(1, 0, 5, 4);
        x.absent(2, 0, 5, 50);
        x.span(3, 0, 5, 0, 5);
        x.grown(4, 0, 4, 5);
        for (int slot = 0; slot < 4; slot++) {
            Due.due("slot " + slot + " for its own face", x.check(slot, 0, 0), 1);
            Due.due("slot " + slot + " for the other face", x.check(slot, 1, 0), 0);
        }
        Due.due("grown from what both have", x.check(4, 2, 0), 1);
        Due.due("grown to the other face", x.check(4, 2, 1), 0);
        x.hide(0, 0);
        x.held(1, 0, 5, 1);
        Due.due("held of a later tree of one n", x.check(1, 0, 0), 0);
        x.within(0, 0, 5, 1);
        Due.due("within does not hang on the tree", x.check(0, 0, 0), 1);
    }

    public static void main(String[] args) {
        promise12Within();
        promise13Grown();
        promise14Held();
        promise15Absent();
        promise16Span();
        promises17And18DropProof();
        promises19And20StepBend();
        promise21Forge();
        promise22Check();
        Due.end();
    }
}

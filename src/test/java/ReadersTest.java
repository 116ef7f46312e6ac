/** Promises 23 to 27: take, talk, reader, blame, smear. */
public final class ReadersTest {
    private static final int NONE = GlassLog.NONE;

    /** LOG 0 has KEYS 1 .. 4, LOG 1 the first two of them and two others, both of KEEPER 1. */
    private static GlassLog twoFaces() {
        GlassLog x = new GlassLog();
        x.open(1);
        for (int k = 1; k <= 4; k++) {
            x.add(0, k, k);
        }
        x.fork(0, 2);
        x.add(1, 5, 5L);
        x.add(1, 6, 6L);
        return x;
    }

    private static void readerIs(GlassLog x, int r, int... due) {
        for (int what = 0; what < due.length; what++) {
            Due.due("reader(" + r + ", " + what + ")", x.reader(r, what), due[what]);
        }
    }

    private static void promise23Take() {
        GlassLog x = twoFaces();
        Due.due("take(12, ..)", x.take(12, 0, 0), NONE);
        Due.due("take(-1, ..)", x.take(-1, 0, 0), NONE);
        Due.due("take of log 2", x.take(0, 2, 0), NONE);
        Due.due("take at 5", x.take(0, 0, 5), NONE);
        Due.due("take at -1", x.take(0, 0, -1), NONE);
        Due.due("none has a head", x.all(2), 0);
        Due.due("take at 0", x.take(0, 0, 0), 1);
        readerIs(x, 0, 0, 0, 1, 0, NONE);
        Due.due("0 entries go with all", x.take(0, 1, 3), 1);
        readerIs(x, 0, 3, 1, 1, 0);
        Due.due("an older one of its own face", x.take(0, 1, 1), 1);
        readerIs(x, 0, 3, 1, 1, 0);
        Due.due("what both faces have", x.take(0, 0, 2), 1);
        readerIs(x, 0, 3, 1, 1, 0);
        Due.due("the other face, older than its own, 2 entries alike", x.take(0, 0, 3), 0);
        readerIs(x, 0, 3, 1, 1, 1);
        Due.due("the other face, newer", x.take(0, 0, 4), 0);
        readerIs(x, 0, 3, 1, 1, 2);
        Due.due("blame: the one held comes first", x.blame(1, 0), 3);
        Due.due("blame: the one taken is second", x.blame(1, 1), 4);
        Due.due("its own again", x.take(0, 1, 3), 1);
        Due.due("a newer one of its face", x.take(0, 1, 4), 1);
        readerIs(x, 0, 4, 1, 1, 2);
        x.open(2);
        Due.due("of another keeper, with less", x.take(0, 2, 0), 1);
        readerIs(x, 0, 0, 2, 2, 2);
        Due.due("and back", x.take(0, 0, 1), 1);
        readerIs(x, 0, 1, 0, 1, 2);
        Due.due("of equal n its own", x.take(0, 1, 1), 1);
        readerIs(x, 0, 1, 0, 1, 2);
    }

    private static void oneLogTwoTrees() {
        GlassLog x = twoFaces();
        x.take(0, 0, 4);
        x.hide(0, 1);
        Due.due("like tops, unlike trees", x.take(0, 0, 4), 0);
        Due.due("a0 of the tops", x.blame(0, 4), x.blame(0, 5));
        Due.due("a0 of the trees", x.blame(0, 6) != x.blame(0, 7), true);
        Due.due("both marks are right all the same", x.blame(0, 3), 1);
        x.add(0, 9, 9L);
        Due.due("of unlike n trees do not count", x.take(0, 0, 5), 1);
        readerIs(x, 0, 5, 0, 1, 1);
    }

    private static void promise24Talk() {
        GlassLog x = twoFaces();
        x.take(0, 0, 4);
        x.take(1, 1, 3);
        x.take(2, 0, 2);
        x.take(3, 0, 4);
        x.open(0);
        x.take(4, 2, 0);
        Due.due("one with itself", x.talk(0, 0), NONE);
        Due.due("one has no head", x.talk(0, 5), NONE);
        Due.due("the first one has none", x.talk(5, 0), NONE);
        Due.due("no such reader", x.talk(0, 12), NONE);
        Due.due("no such reader", x.talk(-1, 0), NONE);
        Due.due("of unlike keepers", x.talk(0, 4), NONE);
        Due.due("like ones", x.talk(0, 3), 1);
        readerIs(x, 3, 4, 0, 1, 0);
        Due.due("two faces", x.talk(0, 1), 0);
        readerIs(x, 0, 4, 0, 1, 1);
        readerIs(x, 1, 3, 1, 1, 1);
        Due.due("first the first one's", x.blame(0, 0), 4);
        Due.due("then the other's", x.blame(0, 1), 3);
        Due.due("turned round", x.talk(1, 0), 0);
        Due.due("first the first one's", x.blame(1, 0), 3);
        Due.due("then the other's", x.blame(1, 1), 4);
        Due.due("the second one learns", x.talk(1, 2), 1);
        readerIs(x, 2, 3, 1, 1, 0);
        readerIs(x, 1, 3, 1, 1, 2);
        x.take(6, 0, 1);
        Due.due("the first one learns", x.talk(6, 0), 1);
        readerIs(x, 6, 4, 0, 1, 0);
        Due.due("what it learnt counts", x.talk(6, 2), 0);
        x.take(7, 1, 2);
        x.take(8, 0, 2);
        Due.due("of equal n each its own", x.talk(7, 8), 1);
        readerIs(x, 7, 2, 1, 1, 0);
        readerIs(x, 8, 2, 0, 1, 0);
        Due.due("blames", x.all(3), 3);
    }

    private static void promise25Reader() {
        GlassLog x = twoFaces();
        for (int r : new int[] {-1, 12, Integer.MIN_VALUE, Integer.MAX_VALUE}) {
            readerIs(x, r, NONE, NONE, NONE, NONE, NONE);
        }
        readerIs(x, 11, NONE, NONE, NONE, 0, NONE);
        Due.due("reader(11, -1)", x.reader(11, -1), NONE);
        x.take(11, 1, 3);
        readerIs(x, 11, 3, 1, 1, 0, NONE);
        Due.due("reader(11, -1)", x.reader(11, -1), NONE);
        x.add(1, 1, 1L);
        readerIs(x, 11, 3, 1, 1, 0, NONE);
    }

    private static void promise26Blame() {
        GlassLog x = twoFaces();
        x.take(0, 0, 4);
        x.take(0, 1, 3);
        int[] due = {4, 3, 1, 1, x.head(0, 4, 0, 0), x.head(1, 3, 0, 0), x.head(0, 4, 1, 0), x.head(1, 3, 1, 0),
            NONE};
        for (int what = 0; what < due.length; what++) {
            Due.due("blame(0, " + what + ")", x.blame(0, what), due[what]);
        }
        Due.due("blame(0, -1)", x.blame(0, -1), NONE);
        Due.due("blame(1, 0)", x.blame(1, 0), NONE);
        Due.due("blame(-1, 0)", x.blame(-1, 0), NONE);
        x.hide(1, 5);
        Due.due("a blame stays as it was", x.blame(0, 7), due[7]);
        for (int k = 2; k <= 60; k++) {
            Due.due("take once more", x.take(0, 1, k % 2 + 3), 0);
            Due.due("blames", x.all(3), k);
        }
        Due.due("the 61st", x.take(0, 1, 4), 0);
        Due.due("is not kept", x.all(3), 60);
        Due.due("is not there", x.blame(60, 0), NONE);
        Due.due("the 60th is", x.blame(59, 1), 3);
        Due.due("the reader was in it", x.reader(0, 3), 61);
    }

    private static void promise27Smear() {
        GlassLog x = twoFaces();
        x.take(0, 0, 4);
        x.take(1, 1, 4);
        Due.due("no blame", x.smear(0, 0, 1), false);
        x.talk(0, 1);
        Due.due("int 8", x.smear(0, 8, 1), false);
        Due.due("int -1", x.smear(0, -1, 1), false);
        Due.due("blame 1", x.smear(1, 0, 1), false);
        Due.due("blame -1", x.smear(-1, 0, 1), false);
        Due.due("marks are right", x.blame(0, 3), 1);
        for (int j = 0; j < 8; j++) {
            Due.due("smear " + j, x.smear(0, j, 1 << 4 * j), true);
            Due.due("a mark is wrong", x.blame(0, 3), 0);
            Due.due("smear " + j + " again", x.smear(0, j, 1 << 4 * j), true);
            Due.due("it is right", x.blame(0, 3), 1);
        }
        Due.due("smear by 0", x.smear(0, 3, 0), true);
        Due.due("is right", x.blame(0, 3), 1);
        x.smear(0, 0, 1);
        x.talk(0, 1);
        Due.due("the readers' own marks stay", x.blame(1, 3), 1);
        Due.due("the smeared one stays", x.blame(0, 3), 0);
    }

    public static void main(String[] args) {
        promise23Take();
        oneLogTwoTrees();
        promise24Talk();
        promise25Reader();
        promise26Blame();
        promise27Smear();
        Due.end();
    }
}

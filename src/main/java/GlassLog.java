import java.util.Arrays;

/**
 * A log that everyone may doubt and no one has to believe: rows of entries that only grow, SUMS
 * that prove what stands in them, readers who keep one HEAD and talk, watchers of KEYS, and BLAME.
 * Words in capitals are those of the document's terms.
 */
public final class GlassLog {
    public static final int NONE = -1;

    private static final int KEEPERS = 4;
    private static final int MOST_LOGS = 6;
    private static final int MOST_ENTRIES = 400;
    private static final int MOST_MARKS = 100;
    private static final int SLOTS = 16;
    private static final int MOST_SPAN = 40;
    private static final int READERS = 12;
    private static final int MOST_BLAMES = 60;
    private static final int WATCHERS = 8;

    private static final int SUM = 8;
    private static final int INT_BITS = 32;
    private static final int WAY_BITS = SUM * INT_BITS;
    private static final int SIGN = 1 << 31;

    /** Blocks of 2^level entries: where the SUMS of each level begin in a LOG's row of SUMS. */
    private static final int[] LEVEL_START = {0, 400, 600, 700, 750, 775, 787, 793, 796};
    private static final int LEVELS = 9;
    private static final int ALL_BLOCKS = 797;

    private static final int EMPTY = 0;
    private static final int WITHIN = 1;
    private static final int GROWN = 2;
    private static final int HELD = 3;
    private static final int ABSENT = 4;
    private static final int SPAN = 5;

    private final Mixer mixer;
    private final MapAt map;
    private final Reckoner reckoner;
    private final House now;
    private final Head shownHead;
    private final Proof shownProof;
    private House kept;

    public GlassLog() {
        mixer = new Mixer();
        map = new MapAt(mixer);
        reckoner = new Reckoner(mixer, map);
        now = new House();
        shownHead = new Head();
        shownProof = new Proof();
    }

    // ---- logs

    public int open(int keeper) {
        if (keeper < 0 || keeper >= KEEPERS) {
            return NONE;
        }
        Log made = now.nextLog();
        if (made == null) {
            return NONE;
        }
        made.clear(keeper);
        return now.logCount - 1;
    }

    public int add(int log, int key, long value) {
        Log to = now.logAt(log);
        if (to == null || to.size >= MOST_ENTRIES) {
            return NONE;
        }
        to.append(mixer, key, value);
        return to.size;
    }

    public int fork(int log, int n) {
        Log from = now.logAt(log);
        if (from == null || !from.reaches(n)) {
            return NONE;
        }
        Log made = now.nextLog();
        if (made == null) {
            return NONE;
        }
        made.copyFirst(from, n);
        return now.logCount - 1;
    }

    public boolean hide(int log, int key) {
        Log in = now.logAt(log);
        return in != null && in.tellMark(key, true);
    }

    public boolean lag(int log, int key) {
        Log in = now.logAt(log);
        return in != null && in.tellMark(key, false);
    }

    public int prune(int log, int n) {
        Log in = now.logAt(log);
        if (in == null || !in.reaches(n)) {
            return NONE;
        }
        return in.forget(n);
    }

    public boolean keep(int log, int i) {
        Log in = now.logAt(log);
        if (in == null || !in.shows(i)) {
            return false;
        }
        in.fates[i] = Log.KEPT;
        return true;
    }

    public int count(int log, int what) {
        Log of = now.logAt(log);
        if (of == null) {
            return NONE;
        }
        switch (what) {
            case 0:
                return of.size;
            case 1:
                return of.goneEntries();
            case 2:
                return of.keeper;
            case 3:
                map.read(of, of.size);
                return map.size;
            case 4:
                return of.marks.howMany(true);
            case 5:
                return of.marks.howMany(false);
            default:
                return NONE;
        }
    }

    public int latest(int log, int n, int key) {
        Log of = now.logAt(log);
        if (of == null || !of.reaches(n)) {
            return NONE;
        }
        map.read(of, n);
        return map.latestOf(of.known.find(key));
    }

    public int head(int log, int n, int what, int j) {
        Log of = now.logAt(log);
        if (of == null || !of.reaches(n) || !isPlaceInSum(j)) {
            return 0;
        }
        switch (what) {
            case 0:
                reckoner.topOf(of, n, shownHead.top);
                return shownHead.top[j];
            case 1:
                reckoner.treeOf(of, n, shownHead.tree);
                return shownHead.tree[j];
            case 2:
                reckoner.makeHead(of, log, n, shownHead);
                return shownHead.mark[j];
            default:
                return 0;
        }
    }

    // ---- proofs

    public int within(int slot, int log, int n, int i) {
        Proof proof = now.slotAt(slot);
        Log of = now.logAt(log);
        if (proof == null || of == null || !of.reaches(n) || i >= n || !of.shows(i)) {
            return NONE;
        }
        proof.begin(WITHIN, n, i);
        of.showEntries(proof, n, i, i + 1);
        return proof.stepCount;
    }

    public int grown(int slot, int log, int m, int n) {
        Proof proof = now.slotAt(slot);
        Log of = now.logAt(log);
        if (proof == null || of == null || !of.reaches(m) || !of.reaches(n) || m > n) {
            return NONE;
        }
        of.showGrowth(proof, m, n);
        return proof.stepCount;
    }

    public int held(int slot, int log, int n, int key) {
        Proof proof = now.slotAt(slot);
        Log of = now.logAt(log);
        if (proof == null || of == null || !of.reaches(n)) {
            return NONE;
        }
        map.read(of, n);
        int latest = map.latestOf(of.known.find(key));
        if (latest == NONE) {
            return NONE;
        }
        proof.begin(HELD, n, 0);
        proof.key = key;
        proof.latest = latest;
        map.showWay(of.known, proof);
        return proof.stepCount;
    }

    public int absent(int slot, int log, int n, int key) {
        Proof proof = now.slotAt(slot);
        Log of = now.logAt(log);
        if (proof == null || of == null || !of.reaches(n)) {
            return NONE;
        }
        map.read(of, n);
        if (map.latestOf(of.known.find(key)) != NONE) {
            return NONE;
        }
        proof.begin(ABSENT, n, 0);
        proof.key = key;
        int other = map.showWay(of.known, proof);
        proof.latest = map.latestOf(other);
        proof.other = of.known.keyOf(other);
        return proof.stepCount;
    }

    public int span(int slot, int log, int n, int a, int b) {
        Proof proof = now.slotAt(slot);
        Log of = now.logAt(log);
        if (proof == null || of == null || !of.reaches(n)) {
            return NONE;
        }
        if (a < 0 || a > b || b > n || b - a > MOST_SPAN || !of.showsAll(a, b)) {
            return NONE;
        }
        proof.begin(SPAN, n, a);
        proof.end = b;
        of.showEntries(proof, n, a, b);
        return proof.stepCount;
    }

    public int drop(int slot) {
        Proof proof = now.slotAt(slot);
        if (proof == null) {
            return NONE;
        }
        int kind = proof.kind;
        proof.begin(EMPTY, 0, 0);
        return kind;
    }

    public int proof(int slot, int what) {
        Proof proof = now.slotAt(slot);
        if (proof == null) {
            return NONE;
        }
        switch (what) {
            case 0:
                return proof.kind;
            case 1:
                return proof.stepCount;
            case 2:
                return proof.n;
            case 3:
                return proof.first;
            case 4:
                return proof.end;
            case 5:
                return proof.toldKey();
            case 6:
                return proof.latest;
            case 7:
                return proof.other;
            default:
                return NONE;
        }
    }

    public int step(int slot, int s, int j) {
        Proof proof = now.slotAt(slot);
        if (proof == null || !proof.hasStep(s) || !isPlaceInSum(j)) {
            return 0;
        }
        return proof.steps[s * SUM + j];
    }

    public boolean bend(int slot, int s, int j, int mask) {
        Proof proof = now.slotAt(slot);
        if (proof == null || !proof.hasStep(s) || !isPlaceInSum(j)) {
            return false;
        }
        proof.steps[s * SUM + j] ^= mask;
        return true;
    }

    public boolean forge(int slot, int k, int key, long value) {
        Proof proof = now.slotAt(slot);
        // Only WITHIN and SPAN tell entries, so every other kind has none such.
        if (proof == null || k < 0 || k >= proof.entryCount) {
            return false;
        }
        proof.entryKeys[k] = key;
        proof.entryValues[k] = value;
        return true;
    }

    public int check(int slot, int reader, int newer) {
        Proof proof = now.slotAt(slot);
        Head head = now.headOf(reader);
        if (proof == null || proof.kind == EMPTY || head == null) {
            return NONE;
        }
        if (proof.kind != GROWN) {
            return reckoner.isRight(proof, head) ? 1 : 0;
        }
        Head second = now.headOf(newer);
        if (second == null) {
            return NONE;
        }
        return reckoner.isGrowth(proof, head, second) ? 1 : 0;
    }

    // ---- readers

    public int take(int reader, int log, int n) {
        Log of = now.logAt(log);
        if (reader < 0 || reader >= READERS || of == null || !of.reaches(n)) {
            return NONE;
        }
        reckoner.makeHead(of, log, n, shownHead);
        Head own = now.headOf(reader);
        if (own == null || own.keeper != shownHead.keeper) {
            now.heads[reader].copy(shownHead);
            return 1;
        }
        if (!agree(own, shownHead)) {
            now.tellBlame(own, shownHead);
            now.timesInBlame[reader]++;
            return 0;
        }
        if (shownHead.n > own.n) {
            own.copy(shownHead);
        }
        return 1;
    }

    public int talk(int a, int b) {
        Head first = now.headOf(a);
        Head second = now.headOf(b);
        if (a == b || first == null || second == null || first.keeper != second.keeper) {
            return NONE;
        }
        if (!agree(first, second)) {
            now.tellBlame(first, second);
            now.timesInBlame[a]++;
            now.timesInBlame[b]++;
            return 0;
        }
        if (first.n > second.n) {
            second.copy(first);
        } else if (second.n > first.n) {
            first.copy(second);
        }
        return 1;
    }

    public int reader(int r, int what) {
        if (r < 0 || r >= READERS) {
            return NONE;
        }
        if (what == 3) {
            return now.timesInBlame[r];
        }
        Head head = now.headOf(r);
        if (head == null) {
            return NONE;
        }
        switch (what) {
            case 0:
                return head.n;
            case 1:
                return head.log;
            case 2:
                return head.keeper;
            default:
                return NONE;
        }
    }

    public int blame(int k, int what) {
        Head first = now.firstBlamed(k);
        Head second = now.secondBlamed(k);
        if (first == null || second == null) {
            return NONE;
        }
        switch (what) {
            case 0:
                return first.n;
            case 1:
                return second.n;
            case 2:
                return first.keeper;
            case 3:
                return reckoner.isMarked(first) && reckoner.isMarked(second) ? 1 : 0;
            case 4:
                return first.top[0];
            case 5:
                return second.top[0];
            case 6:
                return first.tree[0];
            case 7:
                return second.tree[0];
            default:
                return NONE;
        }
    }

    public boolean smear(int k, int j, int mask) {
        Head second = now.secondBlamed(k);
        if (second == null || !isPlaceInSum(j)) {
            return false;
        }
        second.mark[j] ^= mask;
        return true;
    }

    // ---- watchers

    public boolean watcher(int w, int log, int low, int high) {
        if (w < 0 || w >= WATCHERS || now.logAt(log) == null) {
            return false;
        }
        now.watchers[w].begin(log, low, high);
        return true;
    }

    public int watch(int w) {
        Watcher watcher = now.watcherAt(w);
        if (watcher == null) {
            return NONE;
        }
        Log of = now.logAt(watcher.log);
        if (of == null) {
            return NONE;
        }
        watcher.readOn(of);
        map.read(of, of.size);
        return watcher.unlikeKeys(map, of.known.size);
    }

    public int watching(int w, int what) {
        Watcher watcher = now.watcherAt(w);
        if (watcher == null) {
            return NONE;
        }
        switch (what) {
            case 0:
                return watcher.position;
            case 1:
                return watcher.keysRead;
            case 2:
                return watcher.log;
            default:
                return NONE;
        }
    }

    // ---- the house

    public int all(int what) {
        switch (what) {
            case 0:
                return now.logCount;
            case 1:
                return now.fullSlots();
            case 2:
                return now.readersWithHead();
            case 3:
                return now.blameCount;
            case 4:
                return now.allEntries();
            default:
                return NONE;
        }
    }

    public boolean image() {
        if (kept == null) {
            kept = new House();
        }
        kept.copy(now);
        return true;
    }

    public boolean back() {
        if (kept == null) {
            return false;
        }
        now.copy(kept);
        return true;
    }

    /** TO HOLD two HEADS of one KEEPER against one another. */
    private boolean agree(Head first, Head second) {
        if (first.n == second.n) {
            return isSameSum(first.top, second.top) && isSameSum(first.tree, second.tree);
        }
        Head older = first.n < second.n ? first : second;
        Head newer = first.n < second.n ? second : first;
        Log of = now.logAt(newer.log);
        if (of == null || !of.reaches(newer.n)) {
            return false;
        }
        of.showGrowth(shownProof, older.n, newer.n);
        return reckoner.isGrowth(shownProof, older, newer);
    }

    private static boolean isPlaceInSum(int j) {
        return j >= 0 && j < SUM;
    }

    private static boolean isSameSum(int[] one, int[] other) {
        for (int j = 0; j < SUM; j++) {
            if (one[j] != other[j]) {
                return false;
            }
        }
        return true;
    }

    private static void copySum(int[] from, int fromPlace, int[] to, int toPlace) {
        System.arraycopy(from, fromPlace * SUM, to, toPlace * SUM, SUM);
    }

    private static void setNought(int[] to, int place) {
        Arrays.fill(to, place * SUM, place * SUM + SUM, 0);
    }

    private static int bitOfWay(int[] ways, int place, int bit) {
        int word = ways[place * SUM + bit / INT_BITS];
        return (word >>> (INT_BITS - 1 - bit % INT_BITS)) & 1;
    }

    /** The level of the first of the BLOCKS from one place to another one behind it. */
    private static int blockLevel(int from, int to) {
        int level = 0;
        for (int next = 1; next < LEVELS; next++) {
            int size = 1 << next;
            if ((from & (size - 1)) != 0 || from + size > to) {
                break;
            }
            level = next;
        }
        return level;
    }

    /** MIX. A row of SUMS has eight ints a SUM; a place counts SUMS, not ints. */
    private static final class Mixer {
        private static final int MOST_WORDS = 20;
        private static final int FACTOR = 1640531527;
        private static final int ROUNDS = 6;

        private final int[] words = new int[MOST_WORDS];
        private final int[] a = new int[SUM];

        void sumOfEntry(int key, long value, int[] to, int place) {
            words[0] = 1;
            words[1] = key;
            words[2] = (int) (value >>> INT_BITS);
            words[3] = (int) value;
            mix(4, to, place);
        }

        void join(int[] one, int onePlace, int[] other, int otherPlace, int[] to, int place) {
            words[0] = 2;
            System.arraycopy(one, onePlace * SUM, words, 1, SUM);
            System.arraycopy(other, otherPlace * SUM, words, 1 + SUM, SUM);
            mix(1 + 2 * SUM, to, place);
        }

        void wayOf(int key, int[] to, int place) {
            words[0] = 4;
            words[1] = key;
            mix(2, to, place);
        }

        void sumOfLeaf(int key, int latest, int[] to, int place) {
            words[0] = 5;
            words[1] = key;
            words[2] = latest;
            mix(3, to, place);
        }

        void markOf(Head head, int[] to) {
            words[0] = 6;
            words[1] = head.keeper;
            words[2] = 1000003 * head.keeper + 77;
            words[3] = head.n;
            System.arraycopy(head.top, 0, words, 4, SUM);
            System.arraycopy(head.tree, 0, words, 4 + SUM, SUM);
            mix(4 + 2 * SUM, to, 0);
        }

        private void mix(int count, int[] to, int place) {
            for (int j = 0; j < SUM; j++) {
                a[j] = (j + 1) * FACTOR;
            }
            for (int k = 0; k < count; k++) {
                a[k % SUM] ^= words[k];
                if (k % SUM == SUM - 1 || k == count - 1) {
                    turn();
                }
            }
            a[0] ^= count;
            turn();
            System.arraycopy(a, 0, to, place * SUM, SUM);
        }

        // Written out over eight locals, since nearly all the time of a call goes by here.
        private void turn() {
            int a0 = a[0];
            int a1 = a[1];
            int a2 = a[2];
            int a3 = a[3];
            int a4 = a[4];
            int a5 = a[5];
            int a6 = a[6];
            int a7 = a[7];
            for (int round = 0; round < ROUNDS; round++) {
                a0 += a1;
                a0 = ((a0 << 7) | (a0 >>> 25)) ^ a3;
                a1 += a2;
                a1 = ((a1 << 7) | (a1 >>> 25)) ^ a4;
                a2 += a3;
                a2 = ((a2 << 7) | (a2 >>> 25)) ^ a5;
                a3 += a4;
                a3 = ((a3 << 7) | (a3 >>> 25)) ^ a6;
                a4 += a5;
                a4 = ((a4 << 7) | (a4 >>> 25)) ^ a7;
                a5 += a6;
                a5 = ((a5 << 7) | (a5 >>> 25)) ^ a0;
                a6 += a7;
                a6 = ((a6 << 7) | (a6 >>> 25)) ^ a1;
                a7 += a0;
                a7 = ((a7 << 7) | (a7 >>> 25)) ^ a2;
            }
            a[0] = a0;
            a[1] = a1;
            a[2] = a2;
            a[3] = a3;
            a[4] = a4;
            a[5] = a5;
            a[6] = a6;
            a[7] = a7;
        }
    }

    /** Blocks that follow one another from 0 on, joined as they come, up to their TOP. */
    private static final class Tower {
        // PEAKS of 400 and fewer are nine at most, and one more stands while it is joined.
        private static final int MOST_BLOCKS = 12;

        private final Mixer mixer;
        private final int[] starts = new int[MOST_BLOCKS];
        private final int[] sizes = new int[MOST_BLOCKS];
        private final int[] sums = new int[MOST_BLOCKS * SUM];
        private int height;

        Tower(Mixer mixer) {
            this.mixer = mixer;
        }

        void clear() {
            height = 0;
        }

        void put(int start, int size, int[] from, int place) {
            if (height >= MOST_BLOCKS) {
                return;
            }
            starts[height] = start;
            sizes[height] = size;
            copySum(from, place, sums, height);
            height++;
            for (int last = height - 1; last > 0 && areOne(last - 1, last); last--) {
                mixer.join(sums, last - 1, sums, last, sums, last - 1);
                sizes[last - 1] *= 2;
                height = last;
            }
        }

        private boolean areOne(int one, int next) {
            int size = sizes[one];
            return size == sizes[next] && (starts[one] & (2 * size - 1)) == 0;
        }

        void writeTop(int[] to) {
            if (height == 0) {
                setNought(to, 0);
                return;
            }
            copySum(sums, height - 1, to, 0);
            for (int k = height - 2; k >= 0; k--) {
                mixer.join(sums, k, to, 0, to, 0);
            }
        }
    }

    /** The unlike KEYS of a LOG, numbered as they first came, and these numbers by their WAYS. */
    private static final class Keys {
        private final int[] keys = new int[MOST_ENTRIES];
        final int[] ways = new int[MOST_ENTRIES * SUM];
        final int[] order = new int[MOST_ENTRIES];
        int size;

        int find(int key) {
            for (int number = 0; number < size; number++) {
                if (keys[number] == key) {
                    return number;
                }
            }
            return NONE;
        }

        int keyOf(int number) {
            return number >= 0 && number < size ? keys[number] : 0;
        }

        int learn(Mixer mixer, int key) {
            int number = find(key);
            if (number != NONE || size >= MOST_ENTRIES) {
                return number;
            }
            keys[size] = key;
            mixer.wayOf(key, ways, size);
            int place = size;
            for (; place > 0 && isAhead(size, order[place - 1]); place--) {
                order[place] = order[place - 1];
            }
            order[place] = size;
            size++;
            return size - 1;
        }

        private boolean isAhead(int one, int other) {
            for (int j = 0; j < SUM; j++) {
                int mine = ways[one * SUM + j];
                int its = ways[other * SUM + j];
                if (mine != its) {
                    return (mine ^ SIGN) < (its ^ SIGN);
                }
            }
            return false;
        }

        void copyFirst(Keys from, int count) {
            System.arraycopy(from.keys, 0, keys, 0, count);
            System.arraycopy(from.ways, 0, ways, 0, count * SUM);
            size = 0;
            for (int k = 0; k < from.size && size < count; k++) {
                if (from.order[k] < count) {
                    order[size] = from.order[k];
                    size++;
                }
            }
        }
    }

    /** The KEYS of a LOG that are HIDDEN or LAG, each since a count. */
    private static final class Marks {
        final int[] keys = new int[MOST_MARKS];
        final int[] since = new int[MOST_MARKS];
        final boolean[] hides = new boolean[MOST_MARKS];
        int size;

        boolean tell(int key, int count, boolean hidden) {
            if (size >= MOST_MARKS || isTold(key)) {
                return false;
            }
            keys[size] = key;
            since[size] = count;
            hides[size] = hidden;
            size++;
            return true;
        }

        private boolean isTold(int key) {
            for (int k = 0; k < size; k++) {
                if (keys[k] == key) {
                    return true;
                }
            }
            return false;
        }

        int howMany(boolean hidden) {
            int many = 0;
            for (int k = 0; k < size; k++) {
                if (hides[k] == hidden) {
                    many++;
                }
            }
            return many;
        }

        void copyUpTo(Marks from, int count) {
            size = 0;
            for (int k = 0; k < from.size; k++) {
                if (from.since[k] <= count) {
                    keys[size] = from.keys[k];
                    since[size] = from.since[k];
                    hides[size] = from.hides[k];
                    size++;
                }
            }
        }
    }

    /** One LOG. A gone entry's VALUE is forgotten; its KEY's number stays for the MAP. */
    private static final class Log {
        private static final int FREE = 0;
        private static final int KEPT = 1;
        private static final int GONE = 2;

        final Keys known = new Keys();
        final Marks marks = new Marks();
        final int[] numbers = new int[MOST_ENTRIES];
        final int[] fates = new int[MOST_ENTRIES];
        private final long[] values = new long[MOST_ENTRIES];
        private final int[] sums = new int[ALL_BLOCKS * SUM];
        int keeper;
        int size;
        // The TREE that was reckoned last, and of which count, as one HEAD is often asked for anew.
        final int[] tree = new int[SUM];
        int treeCount = NONE;

        void clear(int newKeeper) {
            keeper = newKeeper;
            size = 0;
            known.size = 0;
            marks.size = 0;
            treeCount = NONE;
        }

        boolean reaches(int n) {
            return n >= 0 && n <= size;
        }

        boolean shows(int i) {
            return i >= 0 && i < size && fates[i] != GONE;
        }

        boolean showsAll(int from, int to) {
            for (int i = from; i < to; i++) {
                if (!shows(i)) {
                    return false;
                }
            }
            return true;
        }

        int keyAt(int i) {
            return known.keyOf(numbers[i]);
        }

        void append(Mixer mixer, int key, long value) {
            if (size >= MOST_ENTRIES) {
                return;
            }
            numbers[size] = known.learn(mixer, key);
            values[size] = value;
            fates[size] = FREE;
            mixer.sumOfEntry(key, value, sums, size);
            size++;
            joinFullBlocks(mixer);
        }

        private void joinFullBlocks(Mixer mixer) {
            for (int level = 1; level < LEVELS && size % (1 << level) == 0; level++) {
                int block = (size >> level) - 1;
                int half = LEVEL_START[level - 1] + 2 * block;
                mixer.join(sums, half, sums, half + 1, sums, LEVEL_START[level] + block);
            }
        }

        boolean tellMark(int key, boolean hidden) {
            treeCount = NONE;
            return marks.tell(key, size, hidden);
        }

        int forget(int n) {
            int went = 0;
            for (int i = 0; i < n && i < size; i++) {
                if (fates[i] == FREE) {
                    fates[i] = GONE;
                    values[i] = 0;
                    went++;
                }
            }
            return went;
        }

        int goneEntries() {
            int gone = 0;
            for (int i = 0; i < size; i++) {
                if (fates[i] == GONE) {
                    gone++;
                }
            }
            return gone;
        }

        /** WITHIN and SPAN: the entries from one to ahead of another one, and what is around them. */
        void showEntries(Proof proof, int n, int from, int to) {
            for (int i = from; i < to; i++) {
                proof.tellEntry(keyAt(i), values[i]);
            }
            showBlocks(proof, 0, from);
            showBlocks(proof, to, n);
        }

        void showGrowth(Proof proof, int m, int n) {
            proof.begin(GROWN, n, m);
            showBlocks(proof, 0, m);
            showBlocks(proof, m, n);
        }

        private void showBlocks(Proof proof, int from, int to) {
            int level = 0;
            for (int at = from; at < to; at += 1 << level) {
                level = blockLevel(at, to);
                proof.tellStep(sums, LEVEL_START[level] + (at >> level));
            }
        }

        void climb(Tower tower, int n) {
            int level = 0;
            for (int at = 0; at < n; at += 1 << level) {
                level = blockLevel(at, n);
                tower.put(at, 1 << level, sums, LEVEL_START[level] + (at >> level));
            }
        }

        /** Serves fork, and image and back with all entries, as no mark is since a later count. */
        void copyFirst(Log from, int n) {
            keeper = from.keeper;
            size = n;
            int unlike = 0;
            for (int i = 0; i < n; i++) {
                unlike = Math.max(unlike, from.numbers[i] + 1);
            }
            known.copyFirst(from.known, unlike);
            marks.copyUpTo(from.marks, n);
            System.arraycopy(from.numbers, 0, numbers, 0, n);
            System.arraycopy(from.fates, 0, fates, 0, n);
            System.arraycopy(from.values, 0, values, 0, n);
            for (int level = 0; level < LEVELS; level++) {
                int start = LEVEL_START[level] * SUM;
                System.arraycopy(from.sums, start, sums, start, (n >> level) * SUM);
            }
            treeCount = NONE;
        }
    }

    /** THE MAP of a LOG at a count, its KEYS by their WAYS, and the TREES over it. */
    private static final class MapAt {
        private final Mixer mixer;
        private final int[] latest = new int[MOST_ENTRIES];
        private final int[] inside = new int[MOST_ENTRIES];
        private final int[] trees = new int[(WAY_BITS + 2) * SUM];
        private final int[] way = new int[SUM];
        int size;

        MapAt(Mixer mixer) {
            this.mixer = mixer;
        }

        void read(Log log, int n) {
            Arrays.fill(latest, 0, log.known.size, NONE);
            for (int i = 0; i < n; i++) {
                latest[log.numbers[i]] = i;
            }
            for (int k = 0; k < log.marks.size; k++) {
                if (log.marks.since[k] <= n) {
                    heed(log, k);
                }
            }
            size = 0;
            for (int k = 0; k < log.known.size; k++) {
                int number = log.known.order[k];
                if (latest[number] != NONE) {
                    inside[size] = number;
                    size++;
                }
            }
        }

        private void heed(Log log, int mark) {
            int number = log.known.find(log.marks.keys[mark]);
            if (number == NONE) {
                return;
            }
            latest[number] = NONE;
            if (log.marks.hides[mark]) {
                return;
            }
            for (int i = 0; i < log.marks.since[mark]; i++) {
                if (log.numbers[i] == number) {
                    latest[number] = i;
                }
            }
        }

        int latestOf(int number) {
            return number >= 0 && number < MOST_ENTRIES ? latest[number] : NONE;
        }

        void writeTree(Keys keys, int[] to) {
            plant(this, keys, 0, size, 0, 0);
            copySum(trees, 0, to, 0);
        }

        /**
         * Tells the STEPS on the WAY of the PROOF's KEY; the number of the KEY that is alone at its
         * end, or NONE.
         */
        int showWay(Keys keys, Proof proof) {
            mixer.wayOf(proof.key, way, 0);
            int from = 0;
            int to = size;
            for (int depth = 0; depth < WAY_BITS && to - from > 1; depth++) {
                int parting = partingOf(keys, from, to, depth);
                if (bitOfWay(way, 0, depth) == 0) {
                    plant(this, keys, parting, to, depth + 1, 0);
                    to = parting;
                } else {
                    plant(this, keys, from, parting, depth + 1, 0);
                    from = parting;
                }
                proof.tellStep(trees, 0);
            }
            return to > from ? inside[from] : NONE;
        }

        /** Where those with bit 1 begin among KEYS that are alike in the bits ahead of it. */
        private int partingOf(Keys keys, int from, int to, int depth) {
            int parting = from;
            while (parting < to && bitOfWay(keys.ways, inside[parting], depth) == 0) {
                parting++;
            }
            return parting;
        }

        /** Writes the TREE of the KEYS inside, from one to ahead of another one, at a place. */
        private static void plant(MapAt map, Keys keys, int from, int to, int depth, int place) {
            if (to - from == 1) {
                int number = map.inside[from];
                map.mixer.sumOfLeaf(keys.keyOf(number), map.latest[number], map.trees, place);
                return;
            }
            // The WAYS of unlike KEYS are unlike, as TURN can be undone: none goes deeper.
            if (from >= to || depth >= WAY_BITS) {
                setNought(map.trees, place);
                return;
            }
            int parting = map.partingOf(keys, from, to, depth);
            plant(map, keys, from, parting, depth + 1, place);
            plant(map, keys, parting, to, depth + 1, place + 1);
            map.mixer.join(map.trees, place, map.trees, place + 1, map.trees, place);
        }
    }

    /** A HEAD, told with the LOG that it came from. */
    private static final class Head {
        final int[] top = new int[SUM];
        final int[] tree = new int[SUM];
        final int[] mark = new int[SUM];
        boolean there;
        int n;
        int log;
        int keeper;

        void copy(Head from) {
            there = from.there;
            n = from.n;
            log = from.log;
            keeper = from.keeper;
            copySum(from.top, 0, top, 0);
            copySum(from.tree, 0, tree, 0);
            copySum(from.mark, 0, mark, 0);
        }
    }

    /** What lies in a SLOT. */
    private static final class Proof {
        private static final int FIRST_ROOM = 16;

        final int[] entryKeys = new int[MOST_SPAN];
        final long[] entryValues = new long[MOST_SPAN];
        int[] steps = new int[FIRST_ROOM * SUM];
        int entryCount;
        int stepCount;
        int kind;
        int n;
        /** The number m, i or a; and b. */
        int first;
        int end;
        int key;
        int latest;
        int other;

        void begin(int newKind, int newN, int newFirst) {
            kind = newKind;
            n = newN;
            first = newFirst;
            end = 0;
            key = 0;
            latest = 0;
            other = 0;
            entryCount = 0;
            stepCount = 0;
        }

        void tellEntry(int entryKey, long value) {
            if (entryCount < MOST_SPAN) {
                entryKeys[entryCount] = entryKey;
                entryValues[entryCount] = value;
                entryCount++;
            }
        }

        void tellStep(int[] from, int place) {
            if (stepCount >= WAY_BITS) {
                return;
            }
            if ((stepCount + 1) * SUM > steps.length) {
                steps = Arrays.copyOf(steps, 2 * steps.length);
            }
            copySum(from, place, steps, stepCount);
            stepCount++;
        }

        boolean hasStep(int s) {
            return s >= 0 && s < stepCount;
        }

        int toldKey() {
            return entryCount > 0 ? entryKeys[0] : key;
        }

        void copy(Proof from) {
            begin(from.kind, from.n, from.first);
            end = from.end;
            key = from.key;
            latest = from.latest;
            other = from.other;
            for (int k = 0; k < from.entryCount; k++) {
                tellEntry(from.entryKeys[k], from.entryValues[k]);
            }
            for (int s = 0; s < from.stepCount; s++) {
                tellStep(from.steps, s);
            }
        }
    }

    /** Reckons HEADS, and whether PROOFS are RIGHT for them. */
    private static final class Reckoner {
        private final Mixer mixer;
        private final MapAt map;
        private final Tower tower;
        private final int[] sum = new int[SUM];
        private final int[] way = new int[SUM];

        Reckoner(Mixer mixer, MapAt map) {
            this.mixer = mixer;
            this.map = map;
            tower = new Tower(mixer);
        }

        void topOf(Log log, int n, int[] to) {
            tower.clear();
            log.climb(tower, n);
            tower.writeTop(to);
        }

        void treeOf(Log log, int n, int[] to) {
            if (log.treeCount != n) {
                map.read(log, n);
                map.writeTree(log.known, log.tree);
                log.treeCount = n;
            }
            copySum(log.tree, 0, to, 0);
        }

        void makeHead(Log log, int logNumber, int n, Head head) {
            head.there = true;
            head.n = n;
            head.log = logNumber;
            head.keeper = log.keeper;
            topOf(log, n, head.top);
            treeOf(log, n, head.tree);
            mixer.markOf(head, head.mark);
        }

        boolean isMarked(Head head) {
            mixer.markOf(head, sum);
            return isSameSum(sum, head.mark);
        }

        boolean isGrowth(Proof proof, Head older, Head newer) {
            if (older.n != proof.first || newer.n != proof.n) {
                return false;
            }
            tower.clear();
            int step = climb(proof, 0, 0, proof.first);
            tower.writeTop(sum);
            if (!isSameSum(sum, older.top)) {
                return false;
            }
            climb(proof, step, proof.first, proof.n);
            tower.writeTop(sum);
            return isSameSum(sum, newer.top);
        }

        /** Of every kind but GROWN. */
        boolean isRight(Proof proof, Head head) {
            if (head.n != proof.n) {
                return false;
            }
            switch (proof.kind) {
                case WITHIN:
                case SPAN:
                    return hasEntries(proof, head);
                case HELD:
                    return leadsTo(proof, proof.key, head);
                case ABSENT:
                    boolean isItself = proof.latest != NONE && proof.other == proof.key;
                    return !isItself && leadsTo(proof, proof.other, head);
                default:
                    return false;
            }
        }

        private boolean hasEntries(Proof proof, Head head) {
            tower.clear();
            int step = climb(proof, 0, 0, proof.first);
            for (int k = 0; k < proof.entryCount; k++) {
                mixer.sumOfEntry(proof.entryKeys[k], proof.entryValues[k], sum, 0);
                tower.put(proof.first + k, 1, sum, 0);
            }
            climb(proof, step, proof.first + proof.entryCount, proof.n);
            tower.writeTop(sum);
            return isSameSum(sum, head.top);
        }

        /** The next STEPS are the BLOCKS from one place to another one: the STEP behind them. */
        private int climb(Proof proof, int step, int from, int to) {
            int next = step;
            int level = 0;
            for (int at = from; at < to && next < proof.stepCount; at += 1 << level) {
                level = blockLevel(at, to);
                tower.put(at, 1 << level, proof.steps, next);
                next++;
            }
            return next;
        }

        private boolean leadsTo(Proof proof, int leafKey, Head head) {
            if (proof.latest == NONE) {
                setNought(sum, 0);
            } else {
                mixer.sumOfLeaf(leafKey, proof.latest, sum, 0);
            }
            mixer.wayOf(proof.key, way, 0);
            for (int s = proof.stepCount - 1; s >= 0; s--) {
                if (bitOfWay(way, 0, s) == 0) {
                    mixer.join(sum, 0, proof.steps, s, sum, 0);
                } else {
                    mixer.join(proof.steps, s, sum, 0, sum, 0);
                }
            }
            return isSameSum(sum, head.tree);
        }
    }

    /** Looks at the KEYS from low to high in one LOG; remembers by the KEY's number there. */
    private static final class Watcher {
        private final int[] lastRead = new int[MOST_ENTRIES];
        boolean there;
        int log;
        int position;
        int keysRead;
        private int low;
        private int high;

        void begin(int newLog, int newLow, int newHigh) {
            there = true;
            log = newLog;
            low = newLow;
            high = newHigh;
            position = 0;
            keysRead = 0;
            Arrays.fill(lastRead, NONE);
        }

        void readOn(Log from) {
            for (; position < from.size; position++) {
                int key = from.keyAt(position);
                if (from.shows(position) && key >= low && key <= high) {
                    note(from.numbers[position]);
                }
            }
        }

        private void note(int number) {
            if (lastRead[number] == NONE) {
                keysRead++;
            }
            lastRead[number] = position;
        }

        int unlikeKeys(MapAt map, int keys) {
            int unlike = 0;
            for (int number = 0; number < keys; number++) {
                if (lastRead[number] != NONE && lastRead[number] != map.latestOf(number)) {
                    unlike++;
                }
            }
            return unlike;
        }

        void copy(Watcher from) {
            there = from.there;
            log = from.log;
            low = from.low;
            high = from.high;
            position = from.position;
            keysRead = from.keysRead;
            System.arraycopy(from.lastRead, 0, lastRead, 0, MOST_ENTRIES);
        }
    }

    /**
     * All that image() keeps. LOGS and BLAMES are made when they are first needed, and used again
     * after back(), so that many calls of these need no more room.
     */
    private static final class House {
        private final Log[] logs = new Log[MOST_LOGS];
        int logCount;
        private final Proof[] slots = new Proof[SLOTS];
        final Head[] heads = new Head[READERS];
        final int[] timesInBlame = new int[READERS];
        private final Head[] firsts = new Head[MOST_BLAMES];
        private final Head[] seconds = new Head[MOST_BLAMES];
        int blameCount;
        final Watcher[] watchers = new Watcher[WATCHERS];

        House() {
            for (int k = 0; k < SLOTS; k++) {
                slots[k] = new Proof();
            }
            for (int k = 0; k < READERS; k++) {
                heads[k] = new Head();
            }
            for (int k = 0; k < WATCHERS; k++) {
                watchers[k] = new Watcher();
            }
        }

        Log logAt(int log) {
            return log >= 0 && log < logCount ? logs[log] : null;
        }

        /** One LOG more, to be filled; null if there are too many. */
        Log nextLog() {
            if (logCount >= MOST_LOGS) {
                return null;
            }
            if (logs[logCount] == null) {
                logs[logCount] = new Log();
            }
            logCount++;
            return logs[logCount - 1];
        }

        Proof slotAt(int slot) {
            return slot >= 0 && slot < SLOTS ? slots[slot] : null;
        }

        Head headOf(int reader) {
            return reader >= 0 && reader < READERS && heads[reader].there ? heads[reader] : null;
        }

        Watcher watcherAt(int w) {
            return w >= 0 && w < WATCHERS && watchers[w].there ? watchers[w] : null;
        }

        Head firstBlamed(int k) {
            return k >= 0 && k < blameCount ? firsts[k] : null;
        }

        Head secondBlamed(int k) {
            return k >= 0 && k < blameCount ? seconds[k] : null;
        }

        void tellBlame(Head first, Head second) {
            if (blameCount >= MOST_BLAMES || first == null || second == null) {
                return;
            }
            if (firsts[blameCount] == null || seconds[blameCount] == null) {
                firsts[blameCount] = new Head();
                seconds[blameCount] = new Head();
            }
            firsts[blameCount].copy(first);
            seconds[blameCount].copy(second);
            blameCount++;
        }

        int fullSlots() {
            int full = 0;
            for (int k = 0; k < SLOTS; k++) {
                if (slots[k].kind != EMPTY) {
                    full++;
                }
            }
            return full;
        }

        int readersWithHead() {
            int many = 0;
            for (int k = 0; k < READERS; k++) {
                if (heads[k].there) {
                    many++;
                }
            }
            return many;
        }

        int allEntries() {
            int entries = 0;
            for (int k = 0; k < logCount; k++) {
                Log log = logs[k];
                if (log != null) {
                    entries += log.size;
                }
            }
            return entries;
        }

        void copy(House from) {
            logCount = 0;
            for (int k = 0; k < from.logCount; k++) {
                Log original = from.logs[k];
                Log copied = nextLog();
                if (original != null && copied != null) {
                    copied.copyFirst(original, original.size);
                }
            }
            blameCount = 0;
            for (int k = 0; k < from.blameCount; k++) {
                tellBlame(from.firstBlamed(k), from.secondBlamed(k));
            }
            for (int k = 0; k < SLOTS; k++) {
                slots[k].copy(from.slots[k]);
            }
            for (int k = 0; k < READERS; k++) {
                heads[k].copy(from.heads[k]);
                timesInBlame[k] = from.timesInBlame[k];
            }
            for (int k = 0; k < WATCHERS; k++) {
                watchers[k].copy(from.watchers[k]);
            }
        }
    }
}

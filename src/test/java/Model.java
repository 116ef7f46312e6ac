import java.util.ArrayList;
import java.util.Arrays;
import java.util.HashMap;
import java.util.List;
import java.util.Map;
import java.util.TreeMap;

/**
 * The document once more, word for word and without any thought for speed or room: what GlassLog is
 * held against in ModelTest. Every sum is reckoned anew from the entries, nothing is kept ready.
 */
final class Model {
    static final int NONE = -1;

    record Entry(int key, long value) { }

    record Block(int start, int size, int[] sum) { }

    record Mark(int since, boolean hidden) { }

    record Head(int log, int keeper, int n, int[] top, int[] tree, int[] mark) { }

    static final class Log {
        int keeper;
        List<Entry> entries = new ArrayList<>();
        List<Boolean> gone = new ArrayList<>();
        List<Boolean> kept = new ArrayList<>();
        Map<Integer, Mark> marks = new HashMap<>();

        Log copy() {
            Log to = new Log();
            to.keeper = keeper;
            to.entries.addAll(entries);
            to.gone.addAll(gone);
            to.kept.addAll(kept);
            to.marks.putAll(marks);
            return to;
        }
    }

    static final class Proof {
        int kind;
        int n;
        int m;
        int b;
        int key;
        int latest;
        int other;
        List<Entry> told = new ArrayList<>();
        List<int[]> steps = new ArrayList<>();

        Proof copy() {
            Proof to = new Proof();
            to.kind = kind;
            to.n = n;
            to.m = m;
            to.b = b;
            to.key = key;
            to.latest = latest;
            to.other = other;
            to.told.addAll(told);
            for (int[] step : steps) {
                to.steps.add(step.clone());
            }
            return to;
        }
    }

    record Blame(Head first, Head second) { }

    static final class Watcher {
        int log;
        int low;
        int high;
        int position;
        Map<Integer, Integer> read = new HashMap<>();

        Watcher copy() {
            Watcher to = new Watcher();
            to.log = log;
            to.low = low;
            to.high = high;
            to.position = position;
            to.read.putAll(read);
            return to;
        }
    }

    static final class State {
        List<Log> logs = new ArrayList<>();
        Proof[] slots = new Proof[16];
        Head[] heads = new Head[12];
        int[] blamed = new int[12];
        List<Blame> blames = new ArrayList<>();
        Watcher[] watchers = new Watcher[8];

        State copy() {
            State to = new State();
            for (Log log : logs) {
                to.logs.add(log.copy());
            }
            for (int k = 0; k < 16; k++) {
                to.slots[k] = slots[k] == null ? null : slots[k].copy();
            }
            to.heads = heads.clone();
            to.blamed = blamed.clone();
            to.blames.addAll(blames);
            for (int k = 0; k < 8; k++) {
                to.watchers[k] = watchers[k] == null ? null : watchers[k].copy();
            }
            return to;
        }
    }

    State now = new State();
    State image;

    // ---- terms

    static int[] mix(int... w) {
        int[] a = new int[8];
        for (int j = 0; j < 8; j++) {
            a[j] = (j + 1) * 1640531527;
        }
        for (int k = 0; k < w.length; k++) {
            a[k % 8] ^= w[k];
            if (k % 8 == 7 || k == w.length - 1) {
                turn(a);
            }
        }
        a[0] ^= w.length;
        turn(a);
        return a;
    }

    private static void turn(int[] a) {
        for (int time = 0; time < 6; time++) {
            for (int j = 0; j < 8; j++) {
                a[j] = Integer.rotateLeft(a[j] + a[(j + 1) % 8], 7) ^ a[(j + 3) % 8];
            }
        }
    }

    static int[] words(int first, int[]... rest) {
        List<Integer> all = new ArrayList<>();
        all.add(first);
        for (int[] row : rest) {
            for (int word : row) {
                all.add(word);
            }
        }
        return all.stream().mapToInt(Integer::intValue).toArray();
    }

    static int[] joined(int[] one, int[] other) {
        return mix(words(2, one, other));
    }

    static int[] sum(Entry entry) {
        return mix(1, entry.key(), (int) (entry.value() >> 32), (int) entry.value());
    }

    static int[] sum(Log log, int from, int size) {
        if (size == 1) {
            return sum(log.entries.get(from));
        }
        return joined(sum(log, from, size / 2), sum(log, from + size / 2, size / 2));
    }

    static List<int[]> blocks(int a, int b) {
        List<int[]> found = new ArrayList<>();
        int at = a;
        while (at < b) {
            int size = 1 << 20;
            while (at % size != 0 || at + size > b) {
                size /= 2;
            }
            found.add(new int[] {at, size});
            at += size;
        }
        return found;
    }

    static List<Block> blocks(Log log, int a, int b) {
        List<Block> found = new ArrayList<>();
        for (int[] block : blocks(a, b)) {
            found.add(new Block(block[0], block[1], sum(log, block[0], block[1])));
        }
        return found;
    }

    static int[] top(List<Block> given) {
        List<Block> left = new ArrayList<>(given);
        boolean again = true;
        while (again) {
            again = false;
            for (int k = 0; k + 1 < left.size() && !again; k++) {
                Block one = left.get(k);
                Block next = left.get(k + 1);
                if (one.size() == next.size() && one.start() % (2 * one.size()) == 0) {
                    left.set(k, new Block(one.start(), 2 * one.size(), joined(one.sum(), next.sum())));
                    left.remove(k + 1);
                    again = true;
                }
            }
        }
        if (left.isEmpty()) {
            return new int[8];
        }
        int[] soFar = left.get(left.size() - 1).sum();
        for (int k = left.size() - 2; k >= 0; k--) {
            soFar = joined(left.get(k).sum(), soFar);
        }
        return soFar;
    }

    static TreeMap<Integer, Integer> map(Log log, int n) {
        TreeMap<Integer, Integer> map = new TreeMap<>();
        for (int i = 0; i < n; i++) {
            int key = log.entries.get(i).key();
            Mark mark = log.marks.get(key);
            if (mark == null || n < mark.since() || !mark.hidden() && i < mark.since()) {
                map.put(key, i);
            }
        }
        return map;
    }

    static int bit(int key, int d) {
        return mix(4, key)[d / 32] >>> (31 - d % 32) & 1;
    }

    static int[] tree(Map<Integer, Integer> map, List<Integer> keys, int d) {
        if (keys.isEmpty()) {
            return new int[8];
        }
        if (keys.size() == 1) {
            return mix(5, keys.get(0), map.get(keys.get(0)));
        }
        return joined(tree(map, side(keys, d, 0), d + 1), tree(map, side(keys, d, 1), d + 1));
    }

    static List<Integer> side(List<Integer> keys, int d, int bit) {
        List<Integer> there = new ArrayList<>();
        for (int key : keys) {
            if (bit(key, d) == bit) {
                there.add(key);
            }
        }
        return there;
    }

    static int[] markOf(int keeper, int n, int[] top, int[] tree) {
        return mix(words(6, new int[] {keeper, 1000003 * keeper + 77, n}, top, tree));
    }

    Head headOf(int log, int n) {
        Log of = now.logs.get(log);
        int[] top = top(blocks(of, 0, n));
        Map<Integer, Integer> map = map(of, n);
        int[] tree = tree(map, new ArrayList<>(map.keySet()), 0);
        return new Head(log, of.keeper, n, top, tree, markOf(of.keeper, n, top, tree));
    }

    // ---- what is there

    private boolean isLog(int log) {
        return log >= 0 && log < now.logs.size();
    }

    private boolean isCount(int log, int n) {
        return isLog(log) && n >= 0 && n <= now.logs.get(log).entries.size();
    }

    private static boolean isSlot(int slot) {
        return slot >= 0 && slot < 16;
    }

    private static boolean isReader(int r) {
        return r >= 0 && r < 12;
    }

    private boolean hasHead(int r) {
        return isReader(r) && now.heads[r] != null;
    }

    // ---- logs

    int open(int keeper) {
        if (keeper < 0 || keeper > 3 || now.logs.size() == 6) {
            return NONE;
        }
        Log log = new Log();
        log.keeper = keeper;
        now.logs.add(log);
        return now.logs.size() - 1;
    }

    int add(int log, int key, long value) {
        if (!isLog(log) || now.logs.get(log).entries.size() == 400) {
            return NONE;
        }
        Log to = now.logs.get(log);
        to.entries.add(new Entry(key, value));
        to.gone.add(false);
        to.kept.add(false);
        return to.entries.size();
    }

    int fork(int log, int n) {
        if (!isCount(log, n) || now.logs.size() == 6) {
            return NONE;
        }
        Log made = now.logs.get(log).copy();
        made.entries.subList(n, made.entries.size()).clear();
        made.gone.subList(n, made.gone.size()).clear();
        made.kept.subList(n, made.kept.size()).clear();
        made.marks.values().removeIf(mark -> mark.since() > n);
        now.logs.add(made);
        return now.logs.size() - 1;
    }

    boolean hide(int log, int key) {
        return mark(log, key, true);
    }

    boolean lag(int log, int key) {
        return mark(log, key, false);
    }

    private boolean mark(int log, int key, boolean hidden) {
        if (!isLog(log)) {
            return false;
        }
        Log in = now.logs.get(log);
        if (in.marks.containsKey(key) || in.marks.size() == 100) {
            return false;
        }
        in.marks.put(key, new Mark(in.entries.size(), hidden));
        return true;
    }

    int prune(int log, int n) {
        if (!isCount(log, n)) {
            return NONE;
        }
        Log in = now.logs.get(log);
        int went = 0;
        for (int i = 0; i < n; i++) {
            if (!in.gone.get(i) && !in.kept.get(i)) {
                in.gone.set(i, true);
                went++;
            }
        }
        return went;
    }

    boolean keep(int log, int i) {
        if (!isLog(log) || i < 0 || i >= now.logs.get(log).entries.size() || now.logs.get(log).gone.get(i)) {
            return false;
        }
        now.logs.get(log).kept.set(i, true);
        return true;
    }

    int count(int log, int what) {
        if (!isLog(log)) {
            return NONE;
        }
        Log of = now.logs.get(log);
        return switch (what) {
            case 0 -> of.entries.size();
            case 1 -> (int) of.gone.stream().filter(gone -> gone).count();
            case 2 -> of.keeper;
            case 3 -> map(of, of.entries.size()).size();
            case 4 -> (int) of.marks.values().stream().filter(Mark::hidden).count();
            case 5 -> (int) of.marks.values().stream().filter(mark -> !mark.hidden()).count();
            default -> NONE;
        };
    }

    int latest(int log, int n, int key) {
        return isCount(log, n) ? map(now.logs.get(log), n).getOrDefault(key, NONE) : NONE;
    }

    int head(int log, int n, int what, int j) {
        if (!isCount(log, n) || what < 0 || what > 2 || j < 0 || j > 7) {
            return 0;
        }
        Head head = headOf(log, n);
        return (what == 0 ? head.top() : what == 1 ? head.tree() : head.mark())[j];
    }

    // ---- proofs

    int within(int slot, int log, int n, int i) {
        if (!isSlot(slot) || !isCount(log, n) || i < 0 || i >= n || now.logs.get(log).gone.get(i)) {
            return NONE;
        }
        return showEntries(slot, 1, log, n, i, i + 1);
    }

    int span(int slot, int log, int n, int a, int b) {
        if (!isSlot(slot) || !isCount(log, n) || a < 0 || a > b || b > n || b - a > 40
                || now.logs.get(log).gone.subList(a, b).contains(true)) {
            return NONE;
        }
        return showEntries(slot, 5, log, n, a, b);
    }

    private int showEntries(int slot, int kind, int log, int n, int a, int b) {
        Log of = now.logs.get(log);
        Proof proof = new Proof();
        proof.kind = kind;
        proof.n = n;
        proof.m = a;
        proof.b = kind == 5 ? b : 0;
        proof.told.addAll(of.entries.subList(a, b));
        blocks(of, 0, a).forEach(block -> proof.steps.add(block.sum()));
        blocks(of, b, n).forEach(block -> proof.steps.add(block.sum()));
        now.slots[slot] = proof;
        return proof.steps.size();
    }

    int grown(int slot, int log, int m, int n) {
        if (!isSlot(slot) || !isCount(log, m) || !isCount(log, n) || m > n) {
            return NONE;
        }
        now.slots[slot] = growth(log, m, n);
        return now.slots[slot].steps.size();
    }

    private Proof growth(int log, int m, int n) {
        Log of = now.logs.get(log);
        Proof proof = new Proof();
        proof.kind = 2;
        proof.n = n;
        proof.m = m;
        blocks(of, 0, m).forEach(block -> proof.steps.add(block.sum()));
        blocks(of, m, n).forEach(block -> proof.steps.add(block.sum()));
        return proof;
    }

    int held(int slot, int log, int n, int key) {
        if (!isSlot(slot) || !isCount(log, n) || !map(now.logs.get(log), n).containsKey(key)) {
            return NONE;
        }
        return showKey(slot, 3, log, n, key);
    }

    int absent(int slot, int log, int n, int key) {
        if (!isSlot(slot) || !isCount(log, n) || map(now.logs.get(log), n).containsKey(key)) {
            return NONE;
        }
        return showKey(slot, 4, log, n, key);
    }

    private int showKey(int slot, int kind, int log, int n, int key) {
        Map<Integer, Integer> map = map(now.logs.get(log), n);
        Proof proof = new Proof();
        proof.kind = kind;
        proof.n = n;
        proof.key = key;
        List<Integer> there = new ArrayList<>(map.keySet());
        for (int d = 0; there.size() > 1; d++) {
            proof.steps.add(tree(map, side(there, d, 1 - bit(key, d)), d + 1));
            there = side(there, d, bit(key, d));
        }
        proof.latest = there.isEmpty() ? NONE : map.get(there.get(0));
        if (kind == 4 && !there.isEmpty()) {
            proof.other = there.get(0);
        }
        now.slots[slot] = proof;
        return proof.steps.size();
    }

    int drop(int slot) {
        if (!isSlot(slot)) {
            return NONE;
        }
        int kind = now.slots[slot] == null ? 0 : now.slots[slot].kind;
        now.slots[slot] = null;
        return kind;
    }

    int proof(int slot, int what) {
        if (!isSlot(slot) || what < 0 || what > 7) {
            return NONE;
        }
        Proof proof = now.slots[slot];
        if (proof == null) {
            return 0;
        }
        return switch (what) {
            case 0 -> proof.kind;
            case 1 -> proof.steps.size();
            case 2 -> proof.n;
            case 3 -> proof.m;
            case 4 -> proof.b;
            case 5 -> proof.told.isEmpty() ? proof.key : proof.told.get(0).key();
            case 6 -> proof.latest;
            default -> proof.other;
        };
    }

    private boolean isStep(int slot, int s, int j) {
        return isSlot(slot) && now.slots[slot] != null && s >= 0 && s < now.slots[slot].steps.size() && j >= 0 && j < 8;
    }

    int step(int slot, int s, int j) {
        return isStep(slot, s, j) ? now.slots[slot].steps.get(s)[j] : 0;
    }

    boolean bend(int slot, int s, int j, int mask) {
        if (!isStep(slot, s, j)) {
            return false;
        }
        now.slots[slot].steps.get(s)[j] ^= mask;
        return true;
    }

    boolean forge(int slot, int k, int key, long value) {
        if (!isSlot(slot) || now.slots[slot] == null || k < 0 || k >= now.slots[slot].told.size()) {
            return false;
        }
        now.slots[slot].told.set(k, new Entry(key, value));
        return true;
    }

    int check(int slot, int reader, int newer) {
        if (!isSlot(slot) || now.slots[slot] == null || !hasHead(reader)) {
            return NONE;
        }
        Proof proof = now.slots[slot];
        if (proof.kind == 2 && !hasHead(newer)) {
            return NONE;
        }
        return isRight(proof, now.heads[reader], proof.kind == 2 ? now.heads[newer] : null) ? 1 : 0;
    }

    private static boolean isRight(Proof proof, Head head, Head newer) {
        if (proof.kind == 2) {
            if (head.n() != proof.m || newer.n() != proof.n) {
                return false;
            }
            List<Block> first = told(proof, 0, 0, proof.m);
            List<Block> all = new ArrayList<>(first);
            all.addAll(told(proof, first.size(), proof.m, proof.n));
            return Arrays.equals(top(first), head.top()) && Arrays.equals(top(all), newer.top());
        }
        if (head.n() != proof.n) {
            return false;
        }
        if (proof.kind == 1 || proof.kind == 5) {
            List<Block> all = told(proof, 0, 0, proof.m);
            int steps = all.size();
            for (int k = 0; k < proof.told.size(); k++) {
                all.add(new Block(proof.m + k, 1, sum(proof.told.get(k))));
            }
            all.addAll(told(proof, steps, proof.m + proof.told.size(), proof.n));
            return Arrays.equals(top(all), head.top());
        }
        if (proof.kind == 4 && proof.latest != NONE && proof.other == proof.key) {
            return false;
        }
        int[] soFar = proof.latest == NONE ? new int[8]
                : mix(5, proof.kind == 3 ? proof.key : proof.other, proof.latest);
        for (int s = proof.steps.size() - 1; s >= 0; s--) {
            int[] step = proof.steps.get(s);
            soFar = bit(proof.key, s) == 0 ? joined(soFar, step) : joined(step, soFar);
        }
        return Arrays.equals(soFar, head.tree());
    }

    private static List<Block> told(Proof proof, int step, int a, int b) {
        List<Block> found = new ArrayList<>();
        for (int[] block : blocks(a, b)) {
            found.add(new Block(block[0], block[1], proof.steps.get(step + found.size())));
        }
        return found;
    }

    // ---- readers

    private boolean agree(Head first, Head second) {
        if (first.n() == second.n()) {
            return Arrays.equals(first.top(), second.top()) && Arrays.equals(first.tree(), second.tree());
        }
        Head less = first.n() < second.n() ? first : second;
        Head more = first.n() < second.n() ? second : first;
        return isRight(growth(more.log(), less.n(), more.n()), less, more);
    }

    private void blameBoth(Head first, Head second) {
        if (now.blames.size() < 60) {
            now.blames.add(new Blame(first, second));
        }
    }

    int take(int reader, int log, int n) {
        if (!isReader(reader) || !isCount(log, n)) {
            return NONE;
        }
        Head head = headOf(log, n);
        Head own = now.heads[reader];
        if (own == null || own.keeper() != head.keeper()) {
            now.heads[reader] = head;
            return 1;
        }
        if (!agree(own, head)) {
            blameBoth(own, head);
            now.blamed[reader]++;
            return 0;
        }
        if (head.n() > own.n()) {
            now.heads[reader] = head;
        }
        return 1;
    }

    int talk(int a, int b) {
        if (!hasHead(a) || !hasHead(b) || a == b || now.heads[a].keeper() != now.heads[b].keeper()) {
            return NONE;
        }
        Head first = now.heads[a];
        Head second = now.heads[b];
        if (!agree(first, second)) {
            blameBoth(first, second);
            now.blamed[a]++;
            now.blamed[b]++;
            return 0;
        }
        if (first.n() != second.n()) {
            Head more = first.n() > second.n() ? first : second;
            now.heads[a] = more;
            now.heads[b] = more;
        }
        return 1;
    }

    int reader(int r, int what) {
        if (!isReader(r) || what < 0 || what > 3) {
            return NONE;
        }
        if (what == 3) {
            return now.blamed[r];
        }
        Head head = now.heads[r];
        return head == null ? NONE : what == 0 ? head.n() : what == 1 ? head.log() : head.keeper();
    }

    private static boolean isMarked(Head head) {
        return Arrays.equals(head.mark(), markOf(head.keeper(), head.n(), head.top(), head.tree()));
    }

    int blame(int k, int what) {
        if (k < 0 || k >= now.blames.size()) {
            return NONE;
        }
        Head first = now.blames.get(k).first();
        Head second = now.blames.get(k).second();
        return switch (what) {
            case 0 -> first.n();
            case 1 -> second.n();
            case 2 -> first.keeper();
            case 3 -> isMarked(first) && isMarked(second) ? 1 : 0;
            case 4 -> first.top()[0];
            case 5 -> second.top()[0];
            case 6 -> first.tree()[0];
            case 7 -> second.tree()[0];
            default -> NONE;
        };
    }

    boolean smear(int k, int j, int mask) {
        if (k < 0 || k >= now.blames.size() || j < 0 || j > 7) {
            return false;
        }
        Head old = now.blames.get(k).second();
        int[] mark = old.mark().clone();
        mark[j] ^= mask;
        now.blames.set(k, new Blame(now.blames.get(k).first(),
                new Head(old.log(), old.keeper(), old.n(), old.top(), old.tree(), mark)));
        return true;
    }

    // ---- watchers

    boolean watcher(int w, int log, int low, int high) {
        if (w < 0 || w > 7 || !isLog(log)) {
            return false;
        }
        Watcher made = new Watcher();
        made.log = log;
        made.low = low;
        made.high = high;
        now.watchers[w] = made;
        return true;
    }

    int watch(int w) {
        if (w < 0 || w > 7 || now.watchers[w] == null) {
            return NONE;
        }
        Watcher watcher = now.watchers[w];
        Log of = now.logs.get(watcher.log);
        for (; watcher.position < of.entries.size(); watcher.position++) {
            int key = of.entries.get(watcher.position).key();
            if (!of.gone.get(watcher.position) && key >= watcher.low && key <= watcher.high) {
                watcher.read.put(key, watcher.position);
            }
        }
        int unlike = 0;
        for (Map.Entry<Integer, Integer> read : watcher.read.entrySet()) {
            if (latest(watcher.log, of.entries.size(), read.getKey()) != read.getValue()) {
                unlike++;
            }
        }
        return unlike;
    }

    int watching(int w, int what) {
        if (w < 0 || w > 7 || now.watchers[w] == null) {
            return NONE;
        }
        Watcher watcher = now.watchers[w];
        return what == 0 ? watcher.position : what == 1 ? watcher.read.size() : what == 2 ? watcher.log : NONE;
    }

    // ---- the house

    int all(int what) {
        return switch (what) {
            case 0 -> now.logs.size();
            case 1 -> (int) Arrays.stream(now.slots).filter(slot -> slot != null).count();
            case 2 -> (int) Arrays.stream(now.heads).filter(head -> head != null).count();
            case 3 -> now.blames.size();
            case 4 -> now.logs.stream().mapToInt(log -> log.entries.size()).sum();
            default -> NONE;
        };
    }

    boolean image() {
        image = now.copy();
        return true;
    }

    boolean back() {
        if (image == null) {
            return false;
        }
        now = image.copy();
        return true;
    }
}

import java.util.ArrayList;
import java.util.HashMap;
import java.util.List;
import java.util.Map;
import java.util.Random;

/** Runs of 512 calls by a fixed seed: GlassLog must answer as the Model of the document does. */
public final class ModelTest {
    private static final String[] NAMES = {"open", "add", "fork", "hide", "lag", "prune", "keep", "count", "latest",
        "head", "within", "grown", "held", "absent", "span", "drop", "proof", "step", "bend", "forge", "check", "take",
        "talk", "reader", "blame", "smear", "watcher", "watch", "watching", "all", "image", "back"};
    private static final int[] EXTREMES = {Integer.MIN_VALUE, Integer.MAX_VALUE, -2, 1 << 16, 401, 512, -400};
    private static final int RUNS = 700;

    private final Random random;
    private final GlassLog glass = new GlassLog();
    private final Model model = new Model();
    private final int[] keys;
    private final int[] weights;
    private final int most;

    private ModelTest(long seed, List<Integer> alike) {
        random = new Random(seed);
        keys = keysFor(alike);
        weights = new int[NAMES.length];
        for (int k = 0; k < weights.length; k++) {
            weights[k] = 1 + random.nextInt(6);
        }
        weights[0] = 4;
        weights[1] = new int[] {20, 60, 150, 400}[random.nextInt(4)];
        weights[5] = random.nextInt(3);
        weights[31] = random.nextInt(3);
        if (random.nextInt(4) == 0) {
            weights[3] = 50;
            weights[4] = 50;
        }
        if (random.nextInt(3) == 0) {
            weights[21] = 80;
            weights[22] = 60;
        }
        most = random.nextInt(6);
    }

    private int[] keysFor(List<Integer> alike) {
        int[] pool = new int[new int[] {1, 3, 8, 30, 300}[random.nextInt(5)]];
        int kind = random.nextInt(4);
        for (int k = 0; k < pool.length; k++) {
            pool[k] = kind == 0 ? k : kind == 1 ? random.nextInt() : kind == 2 ? k - pool.length / 2
                    : alike.get(random.nextInt(alike.size()));
        }
        return pool;
    }

    private int extreme() {
        return EXTREMES[random.nextInt(EXTREMES.length)];
    }

    /** Mostly from 0 to ahead of the bound, at times beside it, at times far out. */
    private int below(int bound) {
        int kind = random.nextInt(24);
        if (kind == 0) {
            return -1;
        }
        if (kind == 1) {
            return bound;
        }
        return kind == 2 ? extreme() : random.nextInt(Math.max(1, bound));
    }

    private int log() {
        return below(Math.min(model.now.logs.size(), 1 + most));
    }

    private int size(int log) {
        return log >= 0 && log < model.now.logs.size() ? model.now.logs.get(log).entries.size() : 3;
    }

    private int count(int log) {
        return random.nextInt(3) == 0 ? size(log) : below(size(log) + 1);
    }

    private int key() {
        return random.nextInt(20) == 0 ? extreme() : keys[random.nextInt(keys.length)];
    }

    private int reader() {
        return random.nextInt(3) == 0 ? below(12) : random.nextInt(3);
    }

    private int slot() {
        return random.nextInt(3) == 0 ? below(16) : random.nextInt(3);
    }

    private long value() {
        return random.nextInt(3) == 0 ? random.nextLong() : random.nextInt(4) - 1;
    }

    private int pick() {
        int all = 0;
        for (int weight : weights) {
            all += weight;
        }
        int left = random.nextInt(all);
        int k = 0;
        while (left >= weights[k]) {
            left -= weights[k];
            k++;
        }
        return k;
    }

    private void run(int number) {
        glass.open(number % 4);
        model.open(number % 4);
        for (int call = 1; call < 512; call++) {
            int before = Due.wrong();
            int which = pick();
            String text = "run " + number + ", call " + call + ": " + NAMES[which];
            if (which < 10) {
                logCall(which, text);
            } else if (which < 21) {
                proofCall(which, text);
            } else {
                otherCall(which, text);
            }
            if (Due.wrong() != before) {
                return;
            }
        }
    }

    private void logCall(int which, String text) {
        int log = log();
        int n = count(log);
        int key = key();
        long value = value();
        int what = below(6);
        int place = below(8);
        String told = text + "(" + log + ", n " + n + ", key " + key + ", " + what + ", " + place + ")";
        switch (which) {
            case 0 -> {
                int keeper = random.nextBoolean() ? 1 : below(4);
                Due.due(text + "(" + keeper + ")", glass.open(keeper), model.open(keeper));
            }
            case 1 -> Due.due(told, glass.add(log, key, value), model.add(log, key, value));
            case 2 -> Due.due(told, glass.fork(log, n), model.fork(log, n));
            case 3 -> Due.due(told, glass.hide(log, key), model.hide(log, key));
            case 4 -> Due.due(told, glass.lag(log, key), model.lag(log, key));
            case 5 -> Due.due(told, glass.prune(log, n), model.prune(log, n));
            case 6 -> Due.due(told, glass.keep(log, n), model.keep(log, n));
            case 7 -> Due.due(told, glass.count(log, what), model.count(log, what));
            case 8 -> Due.due(told, glass.latest(log, n, key), model.latest(log, n, key));
            default -> {
                int of = below(3);
                Due.due(told + " " + of, glass.head(log, n, of, place), model.head(log, n, of, place));
            }
        }
    }

    private void proofCall(int which, String text) {
        int slot = slot();
        int log = log();
        int n = count(log);
        int m = below(Math.max(n, 0) + 1);
        int key = key();
        int step = below(6);
        int place = below(8);
        int mask = random.nextInt(3) == 0 ? 0 : random.nextInt();
        int reader = reader();
        int newer = reader();
        long value = value();
        String told = text + "(slot " + slot + ", log " + log + ", n " + n + ", m " + m + ", key " + key + ", step "
                + step + ", place " + place + ", readers " + reader + " " + newer + ")";
        switch (which) {
            case 10 -> Due.due(told, glass.within(slot, log, n, m), model.within(slot, log, n, m));
            case 11 -> Due.due(told, glass.grown(slot, log, m, n), model.grown(slot, log, m, n));
            case 12 -> Due.due(told, glass.held(slot, log, n, key), model.held(slot, log, n, key));
            case 13 -> Due.due(told, glass.absent(slot, log, n, key), model.absent(slot, log, n, key));
            case 14 -> {
                int b = random.nextInt(8) == 0 ? count(log) : m + random.nextInt(45);
                Due.due(told + " b " + b, glass.span(slot, log, n, m, b), model.span(slot, log, n, m, b));
            }
            case 15 -> Due.due(told, glass.drop(slot), model.drop(slot));
            case 16 -> {
                int what = below(8);
                Due.due(told + " " + what, glass.proof(slot, what), model.proof(slot, what));
            }
            case 17 -> Due.due(told, glass.step(slot, step, place), model.step(slot, step, place));
            case 18 -> Due.due(told, glass.bend(slot, step, place, mask), model.bend(slot, step, place, mask));
            case 19 -> Due.due(told, glass.forge(slot, step, key, value), model.forge(slot, step, key, value));
            default -> Due.due(told, glass.check(slot, reader, newer), model.check(slot, reader, newer));
        }
    }

    private void otherCall(int which, String text) {
        int log = log();
        int n = count(log);
        int one = reader();
        int other = reader();
        int what = below(9);
        int blame = below(Math.min(60, model.now.blames.size() + 1));
        int mask = random.nextInt();
        int w = random.nextBoolean() ? below(8) : 0;
        String told = text + "(log " + log + ", n " + n + ", readers " + one + " " + other + ", what " + what
                + ", blame " + blame + ", watcher " + w + ")";
        switch (which) {
            case 21 -> Due.due(told, glass.take(one, log, n), model.take(one, log, n));
            case 22 -> Due.due(told, glass.talk(one, other), model.talk(one, other));
            case 23 -> Due.due(told, glass.reader(one, what % 5), model.reader(one, what % 5));
            case 24 -> Due.due(told, glass.blame(blame, what), model.blame(blame, what));
            case 25 -> Due.due(told, glass.smear(blame, what, mask), model.smear(blame, what, mask));
            case 26 -> {
                int low = random.nextBoolean() ? Integer.MIN_VALUE : key();
                int high = random.nextBoolean() ? Integer.MAX_VALUE : key();
                Due.due(told, glass.watcher(w, log, low, high), model.watcher(w, log, low, high));
            }
            case 27 -> Due.due(told, glass.watch(w), model.watch(w));
            case 28 -> Due.due(told, glass.watching(w, what % 4), model.watching(w, what % 4));
            case 29 -> Due.due(told, glass.all(what % 6), model.all(what % 6));
            case 30 -> Due.due(told, glass.image(), model.image());
            default -> Due.due(told, glass.back(), model.back());
        }
    }

    /** KEYS whose WAYS are alike in the first int, so that the TREE goes deeper than one int. */
    private static List<Integer> alikeKeys() {
        Map<Integer, Integer> seen = new HashMap<>();
        List<Integer> alike = new ArrayList<>();
        for (int key = 0; key < 400_000; key++) {
            Integer before = seen.put(Model.mix(4, key)[0], key);
            if (before != null) {
                alike.add(before);
                alike.add(key);
            }
        }
        return alike;
    }

    public static void main(String[] args) {
        List<Integer> alike = alikeKeys();
        Due.due("some KEYS are alike in 32 bits", alike.size() >= 4, true);
        for (int number = 0; number < RUNS; number++) {
            new ModelTest(number, alike).run(number);
        }
        Due.end();
    }
}

import java.util.ArrayList;
import java.util.Collections;
import java.util.HashMap;
import java.util.List;
import java.util.Map;
import java.util.TreeSet;

/**
 * All that can be seen of the state that some given calls lead to, with the answers that are due by the
 * Model: calls that only look, and calls that go on, since some things (a kept entry, a WATCHER's
 * bounds, the image) show only then. It is asked in parts, each of a new object, since an object is
 * promised for 512 calls alone.
 */
final class Seen {
    static final int MOST_CALLS = 512;
    /** How many calls may stand between the given ones and a part. */
    private static final int MOST_BETWEEN = 4;
    private static final Map<List<String>, Seen> KNOWN = new HashMap<>();

    private final List<String> given;
    private final List<List<String>> parts = new ArrayList<>();
    private final List<long[]> due = new ArrayList<>();

    private Seen(List<String> calls) {
        given = calls;
        Model model = modelAfter(Collections.emptyList());
        addLooks(Collections.emptyList(), looks(model.now));
        addLooks(List.of("back()"), looks(model.image == null ? model.now : model.image));
        addPart(goOnWatching(model.now));
        addPart(goOnWithLogs(model.now));
        addPart(goOnTalking(model.now));
        addPart(goOnWithSlots());
        for (List<String> part : parts) {
            due.add(answers(modelAfter(Collections.emptyList()), part));
        }
    }

    static Seen after(List<String> calls) {
        return KNOWN.computeIfAbsent(new ArrayList<>(calls), Seen::new);
    }

    /** Makes calls behind the given ones: each has its answer, and then all is as without them. */
    void mustStay(String name, List<String> between, long... wanted) {
        Due.due(name + between + ": few enough", between.size() <= MOST_BETWEEN, true);
        for (int k = 0; k < parts.size(); k++) {
            GlassLog x = new GlassLog();
            Calls.askAll(x, given);
            for (int b = 0; b < between.size(); b++) {
                Due.due(name + between.get(b), Calls.ask(x, between.get(b)), wanted[b]);
            }
            long[] got = answers(x, parts.get(k));
            int at = firstUnlike(got, due.get(k));
            if (at >= 0) {
                Due.due(name + "behind " + between + ": " + parts.get(k).get(at), got[at], due.get(k)[at]);
                return;
            }
            Due.due(name + "behind " + between + " all is as it was", true, true);
        }
    }

    /** Whether it can be seen that a call has changed something. */
    boolean tells(String call) {
        for (int k = 0; k < parts.size(); k++) {
            if (firstUnlike(answers(modelAfter(List.of(call)), parts.get(k)), due.get(k)) >= 0) {
                return true;
            }
        }
        return false;
    }

    private Model modelAfter(List<String> more) {
        Model model = new Model();
        Calls.askAll(model, given);
        Calls.askAll(model, more);
        return model;
    }

    private static long[] answers(Object x, List<String> calls) {
        long[] answers = new long[calls.size()];
        for (int k = 0; k < answers.length; k++) {
            answers[k] = Calls.ask(x, calls.get(k));
        }
        return answers;
    }

    private static int firstUnlike(long[] got, long[] want) {
        for (int k = 0; k < want.length; k++) {
            if (got[k] != want[k]) {
                return k;
            }
        }
        return -1;
    }

    private int room() {
        int room = MOST_CALLS - given.size() - MOST_BETWEEN;
        if (room < 10) {
            throw new IllegalStateException(given.size() + " given calls leave no room for looks");
        }
        return room;
    }

    private void addPart(List<String> calls) {
        parts.add(calls.subList(0, Math.min(calls.size(), room())));
    }

    private void addLooks(List<String> ahead, List<String> looks) {
        int most = room() - ahead.size();
        for (int from = 0; from < looks.size(); from += most) {
            List<String> part = new ArrayList<>(ahead);
            part.addAll(looks.subList(from, Math.min(looks.size(), from + most)));
            parts.add(part);
        }
    }

    // ---- calls that only look

    private static List<String> looks(Model.State state) {
        List<String> looks = new ArrayList<>(Calls.split(Calls.times(5, "all(#)")));
        for (int log = 0; log < state.logs.size(); log++) {
            lookAtLog(state.logs.get(log), log, looks);
        }
        looks.add("count(" + state.logs.size() + ", 0)");
        for (int slot = 0; slot < 16; slot++) {
            lookAtSlot(state, slot, looks);
        }
        for (int r = 0; r < 12; r++) {
            looks.addAll(Calls.split(Calls.times(4, "reader(" + r + ", #)")));
        }
        for (int k = 0; k <= state.blames.size(); k++) {
            if (k < 3 || k > state.blames.size() - 3) {
                looks.addAll(Calls.split(Calls.times(8, "blame(" + k + ", #)")));
            }
        }
        for (int w = 0; w < 8; w++) {
            looks.addAll(Calls.split(Calls.times(3, "watching(" + w + ", #)")));
        }
        return looks;
    }

    private static void lookAtLog(Model.Log log, int number, List<String> looks) {
        looks.addAll(Calls.split(Calls.times(6, "count(" + number + ", #)")));
        int size = log.entries.size();
        for (int n : new TreeSet<>(List.of(0, size / 2, Math.max(0, size - 1), size))) {
            looks.addAll(Calls.split(Calls.times(3, "head(" + number + ", " + n + ", #, 0)")));
            for (int key : keysOf(log)) {
                looks.add("latest(" + number + ", " + n + ", " + key + ")");
            }
        }
    }

    private static void lookAtSlot(Model.State state, int slot, List<String> looks) {
        looks.addAll(Calls.split(Calls.times(8, "proof(" + slot + ", #)")));
        Model.Proof proof = state.slots[slot];
        if (proof == null) {
            looks.add("step(" + slot + ", 0, 0)");
            return;
        }
        for (int s = 0; s < proof.steps.size(); s++) {
            looks.addAll(Calls.split(Calls.times(8, "step(" + slot + ", " + s + ", #)")));
        }
        for (int r = 0; r < 4; r++) {
            for (int newer = 0; newer < (proof.kind == 2 ? 4 : 1); newer++) {
                looks.add("check(" + slot + ", " + r + ", " + newer + ")");
            }
        }
    }

    /** A few of a LOG's KEYS: the smallest and the greatest of those that it has, or that are marked. */
    private static List<Integer> keysOf(Model.Log log) {
        TreeSet<Integer> keys = new TreeSet<>(log.marks.keySet());
        for (Model.Entry entry : log.entries) {
            keys.add(entry.key());
        }
        List<Integer> all = new ArrayList<>(keys);
        if (all.size() <= 6) {
            return all;
        }
        List<Integer> some = new ArrayList<>(all.subList(0, 3));
        some.addAll(all.subList(all.size() - 3, all.size()));
        return some;
    }

    // ---- calls that go on

    private static List<String> goOnWatching(Model.State state) {
        String looks = Calls.times(8, "watch(#)") + Calls.times(8, "watching(#, 0)") + Calls.times(8, "watching(#, 1)");
        StringBuilder text = new StringBuilder(looks);
        for (int log = 0; log < state.logs.size(); log++) {
            for (int key : keysOf(state.logs.get(log))) {
                text.append(" add(").append(log).append(", ").append(key).append(", 1)");
            }
        }
        return Calls.split(text + looks);
    }

    private static List<String> goOnWithLogs(Model.State state) {
        StringBuilder text = new StringBuilder();
        for (int log = 0; log < state.logs.size(); log++) {
            int size = state.logs.get(log).entries.size();
            StringBuilder pattern = new StringBuilder("prune(#, " + size + ") count(#, 1) hide(#, 4321) ");
            pattern.append("add(#, 4321, 1) head(#, " + size + ", 2, 7) ");
            for (int key : keysOf(state.logs.get(log))) {
                pattern.append("lag(#, ").append(key).append(") ");
            }
            pattern.append("count(#, 3) count(#, 4) count(#, 5) ");
            text.append(Calls.each(pattern.toString(), Integer.toString(log)));
        }
        return Calls.split(text + "open(2) all(0) all(4)");
    }

    private static List<String> goOnTalking(Model.State state) {
        StringBuilder text = new StringBuilder(Calls.times(11, "talk(0, #)")).append("all(3) ");
        for (int log = 0; log < state.logs.size(); log++) {
            int size = state.logs.get(log).entries.size();
            text.append(Calls.times(4, "take(#, " + log + ", " + size + ")")).append("take(11, " + log + ", 0) ");
        }
        for (int r = 0; r < 4; r++) {
            text.append(Calls.times(4, "reader(" + r + ", #)"));
        }
        return Calls.split(text + "all(2) all(3) smear(0, 0, 1) blame(0, 3)");
    }

    private static List<String> goOnWithSlots() {
        return Calls.split(Calls.times(6, "forge(#, 0, 1, 1)") + Calls.times(6, "forge(#, 1, 1, 1)")
                + Calls.times(6, "check(#, 0, 0)") + Calls.times(16, "bend(#, 0, 0, 1)")
                + Calls.times(16, "drop(#)") + "all(1)");
    }
}

import java.util.ArrayList;
import java.util.List;

/**
 * Words of the document that name an edge, and a new object on which they are tried. Each answer is
 * told by the test; the Model is held to it too, as it says what must stay behind a refused call.
 */
final class Edge {
    private final String name;
    private final List<String> given = new ArrayList<>();
    private final GlassLog x = new GlassLog();
    private final Model model = new Model();

    private Edge(String section, String words) {
        Document.quote(section, words);
        name = section + ", '" + words + "': ";
    }

    static Edge ahead(String words) {
        return new Edge("what it is", words);
    }

    static Edge promise(int number, String words) {
        return new Edge("promise " + number, words);
    }

    static Edge term(int number, String words) {
        return new Edge("term " + number, words);
    }

    /** Makes calls that lead to the edge. */
    Edge given(String calls) {
        for (String call : Calls.split(calls)) {
            due(Calls.ask(model, call), call, false);
        }
        return this;
    }

    /** Makes a call, which must answer this. */
    Edge due(long want, String call) {
        return due(want, call, true);
    }

    private Edge due(long want, String call, boolean asksModel) {
        given.add(call);
        Due.due(name + "calls", given.size() <= Seen.MOST_CALLS, true);
        Due.due(name + call, Calls.ask(x, call), want);
        if (asksModel) {
            Due.due(name + "the Model's " + call, Calls.ask(model, call), want);
        }
        return this;
    }

    /** Makes all these calls, each of which must answer this. */
    Edge dues(long want, String calls) {
        for (String call : Calls.split(calls)) {
            due(want, call);
        }
        return this;
    }

    /** The answers with 0, 1, .. for the pattern's #. */
    Edge row(String pattern, long... wanted) {
        for (int k = 0; k < wanted.length; k++) {
            due(wanted[k], pattern.replace("#", Integer.toString(k)));
        }
        return this;
    }

    Edge sum(String pattern, int[] wanted) {
        for (int j = 0; j < 8; j++) {
            due(wanted[j], pattern.replace("#", Integer.toString(j)));
        }
        return this;
    }

    Edge like(String one, String other) {
        return due(Calls.ask(model, other), one).due(Calls.ask(model, one), other);
    }

    Edge unlike(String one, String other) {
        Due.due(name + one + " is unlike " + other, Calls.ask(x, one) != Calls.ask(x, other), true);
        given.add(one);
        given.add(other);
        return this;
    }

    /** Each of the calls, alone and behind what is given, answers NONE or false and changes nothing. */
    Edge refused(String calls) {
        for (String call : Calls.split(calls)) {
            Seen.after(given).mustStay(name, List.of(call), Calls.refusal(call));
        }
        return this;
    }

    /** The same with each of some words for the pattern's #. */
    Edge refused(String pattern, String words) {
        return refused(Calls.each(pattern, words));
    }

    /** Each of the calls, alone and behind what is given, answers this and changes nothing. */
    Edge stays(long want, String calls) {
        for (String call : Calls.split(calls)) {
            Seen.after(given).mustStay(name, List.of(call), want);
        }
        return this;
    }

    Edge stays(long want, String pattern, String words) {
        return stays(want, Calls.each(pattern, words));
    }

    /** Each of the calls, alone and behind what is given, changes something, and back() undoes it. */
    Edge undone(long want, String calls) {
        for (String call : Calls.split(calls)) {
            Seen seen = Seen.after(given);
            Due.due(name + call + " can be seen", seen.tells(call), true);
            seen.mustStay(name, List.of(call, "back()"), want, 1);
        }
        return this;
    }
}

import java.lang.reflect.InvocationTargetException;
import java.lang.reflect.Method;
import java.util.ArrayList;
import java.util.HashMap;
import java.util.List;
import java.util.Map;
import java.util.regex.Matcher;
import java.util.regex.Pattern;

/**
 * Calls told as text, "open(0) add(0, MIN, MAX)", and made on a GlassLog or on a Model by their names,
 * so that one row of calls can be made on several objects. MIN and MAX are those of the parameter's type.
 */
final class Calls {
    private static final Pattern CALL = Pattern.compile("(\\w+)\\(([^)]*)\\)");
    private static final Map<String, Method> METHODS = new HashMap<>();

    private Calls() { }

    static List<String> split(String text) {
        List<String> calls = new ArrayList<>();
        Matcher found = CALL.matcher(text);
        while (found.find()) {
            calls.add(found.group());
        }
        return calls;
    }

    /** The calls of a pattern with 0, 1, .. ahead of a bound for its #. */
    static String times(int bound, String pattern) {
        return times(0, bound, pattern);
    }

    static String times(int from, int bound, String pattern) {
        StringBuilder text = new StringBuilder();
        for (int k = from; k < bound; k++) {
            text.append(pattern.replace("#", Integer.toString(k))).append(' ');
        }
        return text.toString();
    }

    /** The calls of a pattern with each of some words, "-1 16 MIN", for its #. */
    static String each(String pattern, String words) {
        StringBuilder text = new StringBuilder();
        for (String word : words.split(" ")) {
            text.append(pattern.replace("#", word)).append(' ');
        }
        return text.toString();
    }

    /** What a refused call answers: NONE, or false. */
    static long refusal(String call) {
        return method(GlassLog.class, call).getReturnType() == boolean.class ? 0 : GlassLog.NONE;
    }

    /** The answer; a boolean counts 1 or 0. */
    static long ask(Object x, String call) {
        Method method = method(x.getClass(), call);
        try {
            Object answer = method.invoke(x, arguments(method, call));
            return answer instanceof Boolean is ? (is ? 1 : 0) : (Integer) answer;
        } catch (IllegalAccessException | InvocationTargetException thrown) {
            throw new IllegalStateException(call + " has thrown", thrown);
        }
    }

    static void askAll(Object x, List<String> calls) {
        for (String call : calls) {
            ask(x, call);
        }
    }

    private static Object[] arguments(Method method, String call) {
        Class<?>[] types = method.getParameterTypes();
        String inside = call.substring(call.indexOf('(') + 1, call.indexOf(')'));
        String[] words = inside.isBlank() ? new String[0] : inside.split(",");
        if (words.length != types.length) {
            throw new IllegalStateException(call + " has " + words.length + " arguments");
        }
        Object[] arguments = new Object[words.length];
        for (int k = 0; k < words.length; k++) {
            arguments[k] = argument(types[k], words[k].trim());
        }
        return arguments;
    }

    private static Object argument(Class<?> type, String word) {
        boolean isInt = type == int.class;
        switch (word) {
            case "MIN":
                return isInt ? (Object) Integer.MIN_VALUE : (Object) Long.MIN_VALUE;
            case "MAX":
                return isInt ? (Object) Integer.MAX_VALUE : (Object) Long.MAX_VALUE;
            default:
                return isInt ? (Object) Integer.valueOf(word) : (Object) Long.valueOf(word);
        }
    }

    private static Method method(Class<?> of, String call) {
        String name = call.substring(0, call.indexOf('('));
        return METHODS.computeIfAbsent(of.getName() + "." + name, unused -> find(of, name));
    }

    /** The Model has methods of its own beside the document's, so it is asked by GlassLog's parameters. */
    private static Method find(Class<?> of, String name) {
        for (Method method : GlassLog.class.getMethods()) {
            if (method.getName().equals(name)) {
                try {
                    return of.getDeclaredMethod(name, method.getParameterTypes());
                } catch (NoSuchMethodException missing) {
                    throw new IllegalStateException(of + " has no " + name, missing);
                }
            }
        }
        throw new IllegalStateException("there is no call " + name);
    }
}

import java.io.IOException;
import java.lang.reflect.Constructor;
import java.lang.reflect.Field;
import java.lang.reflect.Method;
import java.lang.reflect.Modifier;
import java.nio.file.Files;
import java.nio.file.Path;
import java.util.ArrayList;
import java.util.Arrays;
import java.util.Comparator;
import java.util.List;
import java.util.Random;
import java.util.Set;
import java.util.TreeSet;
import java.util.regex.Matcher;
import java.util.regex.Pattern;

/** Those rules of LANGUAGE.md that can be looked at from outside, and the document's public face. */
public final class LanguageTest {
    private static final Path SOURCE = Path.of("src/main/java/GlassLog.java");
    private static final Path DOCUMENT = Path.of("../shared/DOC.md");
    private static final String[] FORBIDDEN = {"throw", "throws", "try", "catch", "finally", "synchronized", "assert",
        "double", "float", "Object", "System.out", "Thread", "Random", "volatile", "native", "transient"};
    private static final Set<Class<?>> CONSTANTS = Set.of(int.class, long.class, boolean.class, char.class,
            String.class, int[].class, long[].class, char[].class, byte[].class);

    private static final String[] WILD = {"MIN", "MAX", "-1", "8", "40", "41", "256", "399", "400", "401", "-400",
        "65536", "-65536", "1073741824", "-2147483647"};
    private static final int WILD_RUNS = 12;
    private static final int WILD_CALLS = 6000;

    private static String withoutComments(String source) {
        return source.replaceAll("(?s)/\\*.*?\\*/", "").replaceAll("//[^\n]*", "");
    }

    private static void words(String code) {
        for (String word : FORBIDDEN) {
            boolean isThere = Pattern.compile("\\b" + Pattern.quote(word) + "\\b").matcher(code).find();
            Due.due("the word " + word, isThere, false);
        }
        Due.due("a lambda", code.contains("->"), false);
        Due.due("a method reference", code.contains("::"), false);
        Due.due("a package line", Pattern.compile("(?m)^package\\b").matcher(code).find(), false);
        Matcher imports = Pattern.compile("(?m)^import\\s+(.*);").matcher(code);
        while (imports.find()) {
            Due.due("import " + imports.group(1), imports.group(1).equals("java.util.Arrays"), true);
        }
        Matcher library = Pattern.compile("\\b(System|Arrays|Math|Integer|Long)\\.(\\w+)").matcher(code);
        Set<String> allowed = Set.of("System.arraycopy", "Arrays.copyOf", "Arrays.copyOfRange", "Arrays.fill",
                "Math.max", "Math.min", "Math.abs");
        while (library.find()) {
            Due.due(library.group(), allowed.contains(library.group()), true);
        }
    }

    /** The lines that say "public", without what stands behind a head: " {" here, ";" in the document. */
    private static List<String> publicLines(String code) {
        List<String> lines = new ArrayList<>();
        code.lines().map(String::strip).filter(line -> line.startsWith("public "))
                .forEach(line -> lines.add(line.replaceAll(" \\{$|;$", "")));
        return lines;
    }

    private static void printedFace(String code, String document) {
        String printed = document.substring(document.indexOf("```java"), document.indexOf("```\n\n## Terms"));
        List<String> due = publicLines(printed);
        List<String> found = publicLines(code);
        Due.due("public lines of the document", due.size(), 2 + 1 + 32);
        Due.due("public lines of the class", found.size(), due.size());
        for (int k = 0; k < Math.min(due.size(), found.size()); k++) {
            Due.due("the face has '" + found.get(k) + "', due is '" + due.get(k) + "'", found.get(k).equals(due.get(k)),
                    true);
        }
    }

    /** "Ahead of the calls .. the interface says: ---- proofs." */
    private static void groups(String source, String document) {
        Pattern words = Pattern.compile("Ahead of the calls (.*) the interface says: (---- [a-z ]+)\\.");
        Matcher group = words.matcher(document);
        int groups = 0;
        while (group.find()) {
            groups++;
            int comment = source.indexOf("    // " + group.group(2) + "\n");
            Due.due("the source says " + group.group(2), comment >= 0, true);
            int next = source.indexOf("    // ----", comment + 1);
            String part = source.substring(Math.max(comment, 0), next < 0 ? source.length() : next);
            Matcher call = Pattern.compile("`(\\w+)`").matcher(group.group(1));
            while (call.find()) {
                Due.due(call.group(1) + " stands behind " + group.group(2),
                        Pattern.compile("\n    public \\w+ " + call.group(1) + "\\(").matcher(part).find(), true);
            }
        }
        Due.due("groups of calls", groups, 4);
    }

    private static void face() {
        for (Method method : GlassLog.class.getDeclaredMethods()) {
            int modifiers = method.getModifiers();
            Due.due(method + " is public or private",
                    Modifier.isPublic(modifiers) || Modifier.isPrivate(modifiers) || method.isSynthetic(), true);
        }
        for (Field field : GlassLog.class.getDeclaredFields()) {
            boolean isFace = field.getName().equals("NONE");
            Due.due(field + " is private", Modifier.isPrivate(field.getModifiers()), !isFace);
        }
        Constructor<?>[] constructors = GlassLog.class.getDeclaredConstructors();
        Due.due("constructors", constructors.length, 1);
        Due.due("its parameters", constructors[0].getParameterCount(), 0);
        Due.due("final", Modifier.isFinal(GlassLog.class.getModifiers()), true);
    }

    private static void classes() {
        List<Class<?>> all = new ArrayList<>(Arrays.asList(GlassLog.class.getDeclaredClasses()));
        Set<String> publicNames = new TreeSet<>();
        for (Method method : GlassLog.class.getMethods()) {
            publicNames.add(method.getName());
        }
        for (Class<?> inner : all) {
            Due.due(inner + " is static", Modifier.isStatic(inner.getModifiers()), true);
            Due.due(inner + " is not public", Modifier.isPublic(inner.getModifiers()), false);
            for (Method method : inner.getDeclaredMethods()) {
                Due.due(method + " bears a public name", publicNames.contains(method.getName()), false);
            }
        }
        all.add(GlassLog.class);
        Due.due("at most twelve classes", all.size() <= 12, true);
        for (Class<?> one : all) {
            int fields = 0;
            for (Field field : one.getDeclaredFields()) {
                if (Modifier.isStatic(field.getModifiers())) {
                    Due.due(field + " is final", Modifier.isFinal(field.getModifiers()), true);
                    Due.due(field + " is a constant", CONSTANTS.contains(field.getType()), true);
                } else {
                    fields++;
                }
            }
            Due.due(one + " has at most twenty fields", fields <= 20, true);
            for (Method method : one.getDeclaredMethods()) {
                Due.due(method + " takes at most seven", method.getParameterCount() <= 7, true);
            }
        }
    }

    /** A method begins with a line that ends in ") {" and ends with the brace that is set like it. */
    private static void lengths(List<String> lines) {
        Pattern begin = Pattern.compile("^( {4}| {8})(?!if|for|while|switch)\\S.*\\) \\{$");
        int longest = 0;
        for (int k = 0; k < lines.size(); k++) {
            Matcher matcher = begin.matcher(lines.get(k));
            if (!matcher.matches()) {
                continue;
            }
            int end = k;
            while (!lines.get(end).equals(matcher.group(1) + "}")) {
                end++;
            }
            longest = Math.max(longest, end - k + 1);
        }
        Due.due("the longest method has " + longest + " lines", longest > 10 && longest <= 60, true);
    }

    /**
     * No call may throw, for any arguments in any state; not even behind the 512th, whose answers are
     * free. Whatever a call throws ends the test.
     */
    private static void wildCalls() {
        List<Method> methods = new ArrayList<>();
        for (Method method : GlassLog.class.getDeclaredMethods()) {
            if (Modifier.isPublic(method.getModifiers())) {
                methods.add(method);
            }
        }
        // The order that reflection gives is not promised, and entries are to come fast: add is the first.
        methods.sort(Comparator.comparing(method -> method.getName().equals("add") ? "" : method.getName()));
        for (int seed = 0; seed < WILD_RUNS; seed++) {
            Random random = new Random(seed);
            GlassLog x = new GlassLog();
            int most = 1 + random.nextInt(12);
            for (int k = 0; k < WILD_CALLS; k++) {
                Method method = random.nextInt(3) == 0 ? methods.get(0) : methods.get(random.nextInt(methods.size()));
                Calls.ask(x, wildCall(random, method, most));
            }
            Due.due("it has answered", x.all(0) >= 0, true);
        }
    }

    private static String wildCall(Random random, Method method, int most) {
        List<String> words = new ArrayList<>();
        for (int k = 0; k < method.getParameterCount(); k++) {
            int kind = random.nextInt(12);
            words.add(kind == 0 ? WILD[random.nextInt(WILD.length)]
                    : Integer.toString(random.nextInt(kind == 1 ? 402 : most)));
        }
        return method.getName() + "(" + String.join(", ", words) + ")";
    }

    public static void main(String[] args) throws IOException {
        String source = Files.readString(SOURCE);
        String document = Files.readString(DOCUMENT);
        words(withoutComments(source));
        printedFace(withoutComments(source), document);
        groups(source, document);
        face();
        classes();
        lengths(source.lines().toList());
        wildCalls();
        Due.end();
    }
}

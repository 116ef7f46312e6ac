import java.io.IOException;
import java.net.URL;
import java.net.URLClassLoader;
import java.nio.file.Files;
import java.nio.file.Path;
import java.util.ArrayList;
import java.util.Arrays;
import java.util.Comparator;
import java.util.List;
import java.util.Map;
import java.util.Set;
import java.util.TreeMap;
import java.util.TreeSet;
import java.util.function.IntPredicate;
import java.util.regex.Matcher;
import java.util.regex.Pattern;
import java.util.stream.Stream;
import javax.tools.JavaCompiler;
import javax.tools.ToolProvider;

/** What README.md says is so: its example compiles and answers as it says, and what it names is there. */
public final class ReadmeTest {
    private static final Path README = Path.of("README.md");
    private static final Path TESTS = Path.of("src/test/java");
    private static final Pattern PIECE = Pattern.compile("(?s)```java\\n(.*?)```");
    /** A line of the example: a variable that is set at times, the call, and what it answers. */
    private static final Pattern LINE =
            Pattern.compile("((?:int|boolean) \\w+ = )?(\\w+\\..*);\\s+// (-?\\d+|true|false)(?::.*)?");
    private static final String FIRST_LINE = "GlassLog house = new GlassLog();";

    private ReadmeTest() { }

    private static List<String> exampleLines(String readme) {
        List<String> lines = new ArrayList<>();
        Matcher piece = PIECE.matcher(readme);
        while (piece.find()) {
            piece.group(1).lines().filter(line -> !line.isBlank()).forEach(lines::add);
        }
        return lines;
    }

    /** The example as it stands, in a method of a class of its own. */
    private static String asItStands(List<String> lines) {
        return "public final class Example { public static void main(String[] args) {\n"
                + String.join("\n", lines) + "\n} }\n";
    }

    /** The example with each of its answers put into a row. */
    private static String withAnswers(List<String> lines) {
        StringBuilder code = new StringBuilder("public final class Answers implements ");
        code.append("java.util.function.Supplier<java.util.List<String>> { public java.util.List<String> get() {\n");
        code.append("java.util.List<String> answers = new java.util.ArrayList<>();\n");
        for (String line : lines) {
            Matcher parts = LINE.matcher(line);
            if (!parts.matches()) {
                code.append(line).append('\n');
            } else if (parts.group(1) == null) {
                code.append("answers.add(String.valueOf(").append(parts.group(2)).append("));\n");
            } else {
                String name = parts.group(1).split(" ")[1];
                code.append(parts.group(1)).append(parts.group(2)).append(";\n");
                code.append("answers.add(String.valueOf(").append(name).append("));\n");
            }
        }
        return code.append("return answers;\n} }\n").toString();
    }

    private static int compile(Path folder, String name, String code) throws IOException {
        JavaCompiler compiler = ToolProvider.getSystemJavaCompiler();
        Path file = folder.resolve(name + ".java");
        Files.writeString(file, code);
        return compiler.run(null, null, null, "-d", folder.toString(), "-cp", System.getProperty("java.class.path"),
                file.toString());
    }

    private static List<?> run(Path folder, String name) throws IOException, ReflectiveOperationException {
        try (URLClassLoader loader = new URLClassLoader(new URL[] {folder.toUri().toURL()})) {
            Object made = loader.loadClass(name).getDeclaredConstructor().newInstance();
            return (List<?>) ((java.util.function.Supplier<?>) made).get();
        }
    }

    private static void example(String readme, Path folder) throws IOException, ReflectiveOperationException {
        List<String> lines = exampleLines(readme);
        Due.due("the example begins with a new object", lines.indexOf(FIRST_LINE), 0);
        Due.due("the example compiles", compile(folder, "Example", asItStands(lines)), 0);
        Due.due("the example compiles with its answers", compile(folder, "Answers", withAnswers(lines)), 0);
        List<?> answers = run(folder, "Answers");
        Due.due("each line but the first tells its answer", answers.size(), lines.size() - 1);
        for (int k = 0; k < answers.size(); k++) {
            Matcher parts = LINE.matcher(lines.get(k + 1));
            Due.due(lines.get(k + 1) + " (it answers " + answers.get(k) + ")",
                    parts.matches() && parts.group(3).equals(answers.get(k)), true);
        }
    }

    private static int howMany(IntPredicate isThere) {
        int many = 0;
        while (many < 1000 && isThere.test(many)) {
            many++;
        }
        return many;
    }

    private static GlassLog afterCalls(String calls) {
        GlassLog x = new GlassLog();
        Calls.askAll(x, Calls.split(calls));
        return x;
    }

    private static int longestSpan() {
        GlassLog x = afterCalls(Houses.FULL_LOG);
        return howMany(length -> x.span(0, 0, 400, 0, length + 1) >= 0);
    }

    private static int blamesKept() {
        GlassLog x = afterCalls(Houses.TWO_FACES + "take(0, 0, 4)" + Calls.times(100, "take(0, 1, 4)"));
        return howMany(k -> x.blame(k, 0) >= 0);
    }

    private static Map<String, Integer> limits() {
        GlassLog x = new GlassLog();
        Map<String, Integer> limits = new TreeMap<>();
        limits.put("keepers", howMany(keeper -> new GlassLog().open(keeper) >= 0));
        limits.put("logs", howMany(k -> x.open(0) >= 0));
        limits.put("entries of a log", howMany(k -> x.add(0, k, k) >= 0));
        limits.put("keys of a log that are hidden or lag, together",
                howMany(k -> k % 2 == 0 ? x.hide(0, k) : x.lag(0, k)));
        limits.put("slots", howMany(slot -> x.drop(slot) >= 0));
        limits.put("entries of a span", longestSpan());
        limits.put("readers", howMany(r -> x.reader(r, 3) >= 0));
        limits.put("blames that are kept", blamesKept());
        limits.put("watchers", howMany(w -> x.watcher(w, 0, 0, 0)));
        return limits;
    }

    private static void table(String readme) {
        Map<String, Integer> told = new TreeMap<>();
        Matcher row = Pattern.compile("(?m)^\\| ([^|]*) \\| (\\d+) \\|$").matcher(readme);
        while (row.find()) {
            told.put(row.group(1), Integer.valueOf(row.group(2)));
        }
        Map<String, Integer> found = limits();
        Due.due("the table tells " + told + ", found are " + found, told.equals(found), true);
    }

    /** Every class that is named in backquotes is there; every test and every class inside is named. */
    private static void names(String readme) throws IOException {
        Set<String> inside = new TreeSet<>();
        Arrays.stream(GlassLog.class.getDeclaredClasses()).forEach(one -> inside.add(one.getSimpleName()));
        Set<String> tests = new TreeSet<>();
        try (Stream<Path> files = Files.list(TESTS)) {
            files.forEach(file -> tests.add(file.getFileName().toString().replace(".java", "")));
        }
        Set<String> named = new TreeSet<>();
        Matcher name = Pattern.compile("`([A-Z][a-z]\\w*)`").matcher(readme);
        while (name.find()) {
            named.add(name.group(1));
            boolean isThere = inside.contains(name.group(1)) || tests.contains(name.group(1));
            Due.due(name.group(1) + " is there", isThere, true);
        }
        Due.due("each class inside is named: " + inside, named.containsAll(inside), true);
        for (String test : tests) {
            boolean mustBe = test.endsWith("Test") || test.endsWith("Edges");
            Due.due(test + " is named", !mustBe || named.contains(test), true);
        }
        Matcher path = Pattern.compile("`((?:\\.\\./shared|src)/[\\w./]*)`").matcher(readme);
        while (path.find()) {
            Due.due(path.group(1) + " is there", Files.exists(Path.of(path.group(1))), true);
        }
    }

    private static void commands(String readme) {
        Due.due("it says how to run the tests", readme.contains("```sh\n.ci/run\n```"), true);
        Due.due("that can be run", Files.isExecutable(Path.of(".ci/run")), true);
        Due.due("it says how to compile the class",
                readme.contains("```sh\njavac -d out src/main/java/GlassLog.java\n```"), true);
    }

    private static void remove(Path folder) throws IOException {
        try (Stream<Path> files = Files.walk(folder)) {
            for (Path file : files.sorted(Comparator.reverseOrder()).toList()) {
                Files.delete(file);
            }
        }
    }

    public static void main(String[] args) throws IOException, ReflectiveOperationException {
        String readme = Files.readString(README);
        Path folder = Files.createTempDirectory("readme");
        try {
            example(readme, folder);
        } finally {
            remove(folder);
        }
        table(readme);
        names(readme);
        commands(readme);
        Due.end();
    }
}

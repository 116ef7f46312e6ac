import java.io.IOException;
import java.lang.reflect.Constructor;
import java.lang.reflect.Field;
import java.lang.reflect.Method;
import java.lang.reflect.Modifier;
import java.nio.file.Files;
import java.nio.file.Path;
import java.util.ArrayList;
import java.util.Arrays;
import java.util.List;
import java.util.Set;
import java.util.TreeSet;
import java.util.regex.Matcher;
import java.util.regex.Pattern;

/** Those rules of LANGUAGE.md that can be looked at from outside, and the document's public face. */
public final class LanguageTest {
    private static final Path SOURCE = Path.of("src/main/java/GlassLog.java");
    private static final Path DOCUMENT = Path.of("../shared/DOC.md");
    private static final String[] FORBIDDEN = {"throw", "throws", "try", "catch", "finally", "synchronized", "assert",
        "double", "float", "Object", "System.out", "Thread", "Random", "volatile", "native", "transient"};
    private static final Set<Class<?>> CONSTANTS = Set.of(int.class, long.class, boolean.class, char.class,
            String.class, int[].class, long[].class, char[].class, byte[].class);

    private static String withoutComments(String source) {
        return source.replaceAll("(?s)/\\*.*?\\*/", "").replaceAll("//[^\n]*", "");
    }

    private static void words(String code) {
        for (String word : FORBIDDEN) {
            Due.due("the word " + word, Pattern.compile("\\b" + Pattern.quote(word) + "\\b").matcher(code).find(), false);
        }
        Due.due("a lambda", code.contains("->"), false);
        Due.due("a method reference", code.contains("::"), false);
        Due.due("a package line", Pattern.compile("(?m)^package\\b").matcher(code).find(), false);
        Matcher imports = Pattern.compile("(?m)^import\\s+(.*);").matcher(code);
        while (imports.find()) {
            Due.due("import " + imports.group(1), imports.group(1).equals("java.util.Arrays"), true);
        }
        Matcher library = Pattern.compile("\\b(System|Arrays|Math|Integer|Long)\\.(\\w+)").matcher(code);
        Set<String> allowed = Set.of("System.arraycopy", "Arrays.copyOf", "Arrays.copyOfRange", "Arrays.fill",
                "Math.max", "Math.min", "Math.abs");
        while (library.find()) {
            Due.due(library.group(), allowed.contains(library.group()), true);
        }
    }

    private static void face(String document) {
        String code = document.substring(document.indexOf("```java"), document.indexOf("```\n\n## Terms"));
        Set<String> due = new TreeSet<>();
        Matcher lines = Pattern.compile("public (?:static final )?(?:int|boolean) (\\w+)\\(([^)]*)\\);").matcher(code);
        while (lines.find()) {
            due.add(lines.group(1) + "/" + (lines.group(2).isEmpty() ? 0 : lines.group(2).split(",").length));
        }
        Set<String> found = new TreeSet<>();
        for (Method method : GlassLog.class.getDeclaredMethods()) {
            if (!Modifier.isPrivate(method.getModifiers()) && !method.isSynthetic()) {
                Due.due(method + " is public", Modifier.isPublic(method.getModifiers()), true);
                found.add(method.getName() + "/" + method.getParameterCount());
            }
        }
        Due.due("methods of the document", due.size(), 32);
        Due.due("the face is " + found, found.equals(due), true);
        for (Field field : GlassLog.class.getDeclaredFields()) {
            boolean isFace = field.getName().equals("NONE");
            Due.due(field + " is private", Modifier.isPrivate(field.getModifiers()), !isFace);
        }
        Constructor<?>[] constructors = GlassLog.class.getDeclaredConstructors();
        Due.due("constructors", constructors.length, 1);
        Due.due("its parameters", constructors[0].getParameterCount(), 0);
        Due.due("final", Modifier.isFinal(GlassLog.class.getModifiers()), true);
    }

    private static void classes() {
        List<Class<?>> all = new ArrayList<>(Arrays.asList(GlassLog.class.getDeclaredClasses()));
        Set<String> publicNames = new TreeSet<>();
        for (Method method : GlassLog.class.getMethods()) {
            publicNames.add(method.getName());
        }
        for (Class<?> inner : all) {
            Due.due(inner + " is static", Modifier.isStatic(inner.getModifiers()), true);
            Due.due(inner + " is not public", Modifier.isPublic(inner.getModifiers()), false);
            for (Method method : inner.getDeclaredMethods()) {
                Due.due(method + " bears a public name", publicNames.contains(method.getName()), false);
            }
        }
        all.add(GlassLog.class);
        Due.due("at most twelve classes", all.size() <= 12, true);
        for (Class<?> one : all) {
            int fields = 0;
            for (Field field : one.getDeclaredFields()) {
                if (Modifier.isStatic(field.getModifiers())) {
                    Due.due(field + " is final", Modifier.isFinal(field.getModifiers()), true);
                    Due.due(field + " is a constant", CONSTANTS.contains(field.getType()), true);
                } else {
                    fields++;
                }
            }
            Due.due(one + " has at most twenty fields", fields <= 20, true);
            for (Method method : one.getDeclaredMethods()) {
                Due.due(method + " takes at most seven", method.getParameterCount() <= 7, true);
            }
        }
    }

    /** A method begins with a line that ends in ") {" and ends with the brace that is set like it. */
    private static void lengths(List<String> lines) {
        Pattern begin = Pattern.compile("^( {4}| {8})(?!if|for|while|switch)\\S.*\\) \\{$");
        int longest = 0;
        for (int k = 0; k < lines.size(); k++) {
            Matcher matcher = begin.matcher(lines.get(k));
            if (!matcher.matches()) {
                continue;
            }
            int end = k;
            while (!lines.get(end).equals(matcher.group(1) + "}")) {
                end++;
            }
            longest = Math.max(longest, end - k + 1);
        }
        Due.due("the longest method has " + longest + " lines", longest > 10 && longest <= 60, true);
    }

    public static void main(String[] args) throws IOException {
        String source = Files.readString(SOURCE);
        words(withoutComments(source));
        face(Files.readString(DOCUMENT));
        classes();
        lengths(source.lines().toList());
        Due.end();
    }
}

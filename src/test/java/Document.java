import java.io.IOException;
import java.io.UncheckedIOException;
import java.nio.file.Files;
import java.nio.file.Path;
import java.util.Arrays;
import java.util.LinkedHashMap;
import java.util.Map;
import java.util.regex.Matcher;
import java.util.regex.Pattern;

/**
 * ../shared/DOC.md by what it is, its terms and promises, and which of its words some test has quoted: a
 * test of an edge tells the words that it is for, and words that no test tells are found at the end.
 */
final class Document {
    private static final Map<String, String> TEXTS = read();
    private static final Map<String, boolean[]> QUOTED = new LinkedHashMap<>();

    private Document() { }

    private static Map<String, String> read() {
        String all;
        try {
            all = Files.readString(Path.of("../shared/DOC.md"));
        } catch (IOException missing) {
            throw new UncheckedIOException(missing);
        }
        Map<String, String> texts = new LinkedHashMap<>();
        String ahead = all.substring(all.indexOf("## What it is"), all.indexOf("## The public face"));
        texts.put("what it is", plain(ahead.replace("## What it is", "")));
        String terms = all.substring(all.indexOf("## Terms"), all.indexOf("Ahead of the calls"));
        Matcher term = Pattern.compile("(?ms)^(\\d)\\. (.*?)(?=^\\d\\. |\\z)").matcher(terms);
        while (term.find()) {
            texts.put("term " + term.group(1), plain(term.group(2)));
        }
        // A promise's own words stand behind its call, which is told in backquotes.
        Matcher promise = Pattern.compile("(?ms)^## Promise (\\d+): [^\\n]*\\n+`[^`]*`: (.*?)(?=^## )").matcher(all);
        while (promise.find()) {
            texts.put("promise " + promise.group(1), plain(promise.group(2)));
        }
        return texts;
    }

    private static String plain(String text) {
        return text.replace("```text", " ").replace("```", " ").replaceAll("\\s+", " ").trim();
    }

    static void quote(String section, String words) {
        String text = TEXTS.getOrDefault(section, "");
        int at = text.indexOf(words);
        Due.due(section + " says '" + words + "'", at >= 0, true);
        if (at >= 0) {
            boolean[] marks = QUOTED.computeIfAbsent(section, unused -> new boolean[text.length()]);
            Arrays.fill(marks, at, at + words.length(), true);
        }
    }

    /** Every word of what it is, of each term and of each promise must have been quoted. */
    static void end() {
        Due.due("what it is, terms and promises", TEXTS.size(), 1 + 4 + 33);
        for (Map.Entry<String, String> section : TEXTS.entrySet()) {
            String text = section.getValue();
            boolean[] marks = QUOTED.getOrDefault(section.getKey(), new boolean[text.length()]);
            StringBuilder left = new StringBuilder();
            for (int k = 0; k < marks.length; k++) {
                left.append(marks[k] ? ' ' : text.charAt(k));
            }
            Due.due(section.getKey() + " has no test for '" + left.toString().trim() + "'",
                    left.toString().matches(".*[\\w].*"), false);
        }
    }
}

import java.io.IOException;
import java.io.UncheckedIOException;
import java.nio.file.Files;
import java.nio.file.Path;
import java.util.Map;
import java.util.TreeMap;
import java.util.regex.Matcher;
import java.util.regex.Pattern;

/** The document, by headings: a test quotes the words that it looks at, and what none has quoted can be told. */
final class Doc {
    private static final Map<String, String> SECTIONS = read();
    private static final Map<String, boolean[]> QUOTED = new TreeMap<>();

    private Doc() {
    }

    private static Map<String, String> read() {
        String all;
        try {
            all = Files.readString(Path.of("../shared/DOC.md"));
        } catch (IOException e) {
            throw new UncheckedIOException(e);
        }
        Map<String, String> sections = new TreeMap<>();
        for (String part : all.split("(?m)^## ")) {
            int end = part.indexOf('\n');
            String heading = part.substring(0, end).replaceAll(":.*", "");
            if (heading.equals("Terms") || heading.startsWith("Promise ")) {
                sections.put(heading, part.substring(end).replaceAll("\\s+", " "));
            }
        }
        return sections;
    }

    static int sections() {
        return SECTIONS.size();
    }

    /** Whether the words stand under that heading; they count as quoted then. */
    static boolean quote(String heading, String words) {
        String text = SECTIONS.getOrDefault(heading, "");
        int at = text.indexOf(words);
        if (at < 0 || words.isEmpty()) {
            return false;
        }
        boolean[] marks = QUOTED.computeIfAbsent(heading, h -> new boolean[text.length()]);
        for (; at >= 0; at = text.indexOf(words, at + 1)) {
            java.util.Arrays.fill(marks, at, at + words.length(), true);
        }
        return true;
    }

    /** Words of the document that no test has quoted, the face and the marks of the page left out. */
    static String unquoted() {
        StringBuilder left = new StringBuilder();
        SECTIONS.forEach((heading, text) -> {
            boolean[] marks = QUOTED.computeIfAbsent(heading, h -> new boolean[text.length()]);
            Matcher page = Pattern.compile("```(text)?|`[^`]*`|==== \\d\\.").matcher(text);
            while (page.find()) {
                java.util.Arrays.fill(marks, page.start(), page.end(), true);
            }
            StringBuilder run = new StringBuilder();
            for (int k = 0; k <= marks.length; k++) {
                if (k < marks.length && !marks[k]) {
                    run.append(text.charAt(k));
                    continue;
                }
                if (run.toString().matches(".*[A-Za-z0-9].*")) {
                    left.append('[').append(heading).append(": ").append(run.toString().trim()).append(']');
                }
                run.setLength(0);
            }
        });
        return left.toString();
    }
}

import java.io.IOException;
import java.lang.reflect.InvocationTargetException;
import java.lang.reflect.Method;
import java.nio.charset.StandardCharsets;
import java.nio.file.Files;
import java.nio.file.Path;
import java.util.ArrayList;
import java.util.List;
import java.util.TreeSet;
import java.util.regex.Matcher;
import java.util.regex.Pattern;
import java.util.stream.Stream;

/** What README.md shows is so: its calls answer what is told behind them, its commands run, it names every test. */
public final class ReadmeTest {
    private static final Pattern MADE = Pattern.compile("GentleRoad x = new GentleRoad\\(\\);");
    private static final Pattern CALL = Pattern.compile("x\\.(\\w+)\\((.*?)\\);( *// (throws )?([\\w-]+)(: .*)?)?");
    private static final Pattern QUOTED = Pattern.compile(".*\"(.*)\"");

    private GentleRoad x;
    private int calls = 0;

    private ReadmeTest() {
    }

    public static void main(String[] args) throws Exception {
        String page = Files.readString(Path.of("README.md"));
        ReadmeTest test = new ReadmeTest();
        for (String block : blocks(page, "java")) {
            for (String line : block.split("\n")) {
                test.make(line);
            }
        }
        Due.same("calls were seen", test.calls > 20, true);
        List<String> commands = blocks(page, "sh");
        Due.same("there are commands", commands.size(), 1);
        for (String block : commands) {
            Due.same("commands end well: " + block, run(block), 0);
        }
        names(page);
        Due.close();
    }

    private static List<String> blocks(String page, String language) {
        List<String> blocks = new ArrayList<>();
        Matcher m = Pattern.compile("(?s)```" + language + "\n(.*?)```").matcher(page);
        while (m.find()) {
            blocks.add(m.group(1));
        }
        return blocks;
    }

    /** Every line is looked at: one that is of neither form is a wrong answer. */
    private void make(String line) throws IllegalAccessException {
        if (MADE.matcher(line).matches()) {
            x = new GentleRoad();
            return;
        }
        Matcher m = CALL.matcher(line);
        boolean isCall = x != null && m.matches();
        Due.same("README has a call: " + line, isCall, true);
        if (!isCall) {
            return;
        }
        calls++;
        String want = m.group(3) == null ? "null" : (m.group(4) == null ? "" : m.group(4)) + m.group(5);
        Due.same("README: " + line, answer(m.group(1), m.group(2)), want);
        if (m.group(1).equals("feed")) {
            fed(line, m.group(2), m.group(6));
        }
    }

    private String answer(String name, String given) throws IllegalAccessException {
        String[] words = given.isEmpty() ? new String[0] : given.split(", ");
        for (Method method : GentleRoad.class.getMethods()) {
            if (!method.getName().equals(name) || method.getParameterCount() != words.length) {
                continue;
            }
            Object[] values = new Object[words.length];
            for (int k = 0; k < words.length; k++) {
                values[k] = method.getParameterTypes()[k] == boolean.class
                        ? (Object) Boolean.valueOf(words[k]) : (Object) Integer.decode(words[k]);
            }
            try {
                return String.valueOf(method.invoke(x, values));
            } catch (InvocationTargetException e) {
                return "throws " + e.getCause().getClass().getSimpleName();
            }
        }
        return "there is no such call";
    }

    /** A text that is quoted behind a feed is what the numbers are, up to bytes that are cut off later. */
    private static void fed(String line, String numbers, String told) {
        Matcher m = QUOTED.matcher(told);
        if (!m.matches()) {
            return;
        }
        byte[] bytes = new byte[20];
        String[] words = numbers.split(", ");
        for (int k = 0; k < 20; k++) {
            bytes[k] = (byte) (Integer.decode(words[k / 4]) >> (24 - 8 * (k % 4)));
        }
        String all = new String(bytes, StandardCharsets.ISO_8859_1);
        Due.same("the text of " + line, all.replaceAll("\0+$", ""), m.group(1));
    }

    private static int run(String commands) throws IOException, InterruptedException {
        Process process = new ProcessBuilder("sh", "-e", "-c", commands)
                .redirectOutput(ProcessBuilder.Redirect.DISCARD).redirectError(ProcessBuilder.Redirect.INHERIT).start();
        return process.waitFor();
    }

    private static void names(String page) throws IOException {
        TreeSet<String> there = new TreeSet<>();
        try (Stream<Path> files = Files.list(Path.of("src/test/java"))) {
            files.map(f -> f.getFileName().toString()).filter(n -> n.endsWith("Test.java"))
                    .forEach(n -> there.add(n.replace(".java", "")));
        }
        TreeSet<String> named = new TreeSet<>();
        Matcher m = Pattern.compile("(?m)^\\| `(\\w+)` \\|").matcher(page);
        while (m.find()) {
            named.add(m.group(1));
        }
        Due.same("README names every test", named, there);
        Matcher files = Pattern.compile("`(\\.ci/[\\w/.]+|src/[\\w/.]+|\\.\\./shared[\\w/.]*)`").matcher(page);
        while (files.find()) {
            Due.same("README names " + files.group(1), Files.exists(Path.of(files.group(1))), true);
        }
    }
}

import java.lang.management.ManagementFactory;
import java.lang.reflect.Field;
import java.lang.reflect.Method;
import java.lang.reflect.Modifier;
import java.nio.file.Files;
import java.nio.file.Path;
import java.util.ArrayList;
import java.util.Arrays;
import java.util.List;
import java.util.TreeSet;
import java.util.regex.Matcher;
import java.util.regex.Pattern;

/** The document's face, the rules of LANGUAGE.md that can be looked at by a program, and the room of a run. */
public final class FaceTest {
    private static final int MOST_LINES = 60;

    private FaceTest() {
    }

    public static void main(String[] args) throws Exception {
        face();
        language();
        room();
        Due.close();
    }

    private static void face() throws Exception {
        String doc = Files.readString(Path.of("../shared/DOC.md"));
        TreeSet<String> want = new TreeSet<>();
        Matcher m = Pattern.compile("(?m)^    public (\\w+) (\\w+)\\((.*?)\\)(?: throws (.*))?;$").matcher(doc);
        while (m.find()) {
            String types = m.group(3).replaceAll("(\\w+) \\w+", "$1").replace(" ", "");
            want.add(m.group(1) + " " + m.group(2) + "(" + types + ")" + sorted(m.group(4)));
        }
        TreeSet<String> got = new TreeSet<>();
        for (Method method : GentleRoad.class.getDeclaredMethods()) {
            if (Modifier.isPrivate(method.getModifiers())) {
                Due.same("a private one bears no public name: " + method.getName(),
                        want.stream().anyMatch(w -> w.contains(" " + method.getName() + "(")), false);
                continue;
            }
            Due.same("public, not static: " + method.getName(), method.getModifiers(), Modifier.PUBLIC);
            List<String> types = new ArrayList<>();
            for (Class<?> type : method.getParameterTypes()) {
                types.add(type.getSimpleName());
            }
            List<String> thrown = new ArrayList<>();
            for (Class<?> type : method.getExceptionTypes()) {
                thrown.add(type.getSimpleName());
            }
            got.add(method.getReturnType().getSimpleName() + " " + method.getName() + "(" + String.join(",", types) + ")"
                    + sorted(thrown.isEmpty() ? null : String.join(", ", thrown)));
        }
        Due.same("the face has 33 methods", want.size(), 33);
        Due.same("the face", got, want);
        Due.same("final and public", GentleRoad.class.getModifiers(), Modifier.PUBLIC | Modifier.FINAL);
        Due.same("one constructor", Arrays.toString(GentleRoad.class.getDeclaredConstructors()), "[public GentleRoad()]");
        for (Field field : GentleRoad.class.getDeclaredFields()) {
            boolean isFace = field.getName().equals("NONE");
            Due.same("private but for NONE: " + field.getName(), Modifier.isPrivate(field.getModifiers()), !isFace);
            Due.same("static ones are final: " + field.getName(),
                    Modifier.isStatic(field.getModifiers()) && !Modifier.isFinal(field.getModifiers()), false);
        }
        for (Class<?> inside : GentleRoad.class.getDeclaredClasses()) {
            Due.same("static: " + inside, Modifier.isStatic(inside.getModifiers()), true);
            Due.same("twenty fields at most: " + inside, instanceFields(inside) <= 20, true);
        }
        Due.same("twenty fields at most", instanceFields(GentleRoad.class) <= 20, true);
        Due.same("twelve classes at most", GentleRoad.class.getDeclaredClasses().length <= 11, true);
        Due.same("NONE", GentleRoad.NONE, -1);
    }

    private static String sorted(String thrown) {
        return thrown == null ? "[]" : new TreeSet<>(Arrays.asList(thrown.split(", "))).toString();
    }

    private static long instanceFields(Class<?> type) {
        return Arrays.stream(type.getDeclaredFields()).filter(f -> !Modifier.isStatic(f.getModifiers())).count();
    }

    private static void language() throws Exception {
        String all = Files.readString(Path.of("src/main/java/GentleRoad.java"));
        String code = all.replaceAll("(?s)/\\*.*?\\*/", "").replaceAll("//.*", "");
        String[] forbidden = {"\\btry\\b", "\\bcatch\\b", "\\bfinally\\b", "\\bsynchronized\\b", "\\bassert\\b", "->", "::",
            "static \\{", "Exact\\(", "\\bpackage\\b", "\\bSystem\\.(?!arraycopy)", "\\bprotected\\b", "\\bthread",
            "\\.ordinal\\(", "\\.hashCode\\(", "\\.toString\\(", "\\bdouble\\b", "\\bfloat\\b", "Math\\.(?!abs|max|min)",
            "Arrays\\.(?!fill)", "new int\\[[^;]*\\]\\["};
        for (String word : forbidden) {
            Due.same("none of " + word, Pattern.compile(word).matcher(code).find(), false);
        }
        Matcher imports = Pattern.compile("(?m)^import (.*);$").matcher(code);
        while (imports.find()) {
            Due.same("import", imports.group(1).matches("java\\.util\\.(Arrays|NoSuchElementException)"), true);
        }
        Matcher thrown = Pattern.compile("throw (.*)").matcher(code);
        while (thrown.find()) {
            Due.same("throw", thrown.group(1).matches("new (IllegalState|IllegalArgument|IndexOutOfBounds|NoSuchElement)"
                    + "Exception\\(\"[ -~]*\"\\);"), true);
        }
        methods(code);
    }

    private static void methods(String code) {
        Matcher m = Pattern.compile("(?m)^( {4}| {8})(?=\\S)[\\w\\[\\] ]+ ?\\w+\\(([^()]*)\\)\\s*(throws [^{]*)?\\{$").matcher(code);
        int seen = 0;
        while (m.find()) {
            seen++;
            int close = code.indexOf("\n" + m.group(1) + "}", m.end());
            long lines = code.substring(m.start(), close).lines().count();
            Due.same("at most sixty lines: " + m.group().trim(), lines <= MOST_LINES, true);
            Due.same("at most seven parameters: " + m.group().trim(), m.group(2).split(",").length <= 7, true);
        }
        Due.same("methods were seen", seen > 100, true);
    }

    /** What 512 of the dearest calls make must stay far below the room; 8 bytes are about an element. */
    private static void room() {
        com.sun.management.ThreadMXBean counter = (com.sun.management.ThreadMXBean) ManagementFactory.getThreadMXBean();
        long before = counter.getThreadAllocatedBytes(Thread.currentThread().getId());
        GentleRoad x = new GentleRoad();
        long made = counter.getThreadAllocatedBytes(Thread.currentThread().getId()) - before;
        Due.same("a new object: " + made, made < 4 * 60000, true);
        Due.tell(x, Due.level(9, 9, 7, ";depth 3;spoil 30"));
        x.land();
        before = counter.getThreadAllocatedBytes(Thread.currentThread().getId());
        for (int k = 0; k < 25; k++) {
            x.build(k & 3, k, 80 - k);
            x.level(k & 3, 10);
            x.road(k & 3, 10);
            x.raise(k, 1);
            x.best(0, 80, k % 6);
            x.along(80, 0, k % 6, 3);
            x.reach(k);
            x.grade(0, 80);
            x.gate(0, 80);
            x.bored(0, 80, 3);
            x.meet(0, 40, 80, 1);
            x.joins(80, k & 3, 1);
            x.spare(0, 80, 1);
            x.water(40, 1);
            x.water(40, 2);
            x.feed(0x00010203, 0x04050000, 0, 0, 0);
            x.end(6);
            x.round();
            x.image();
            x.undo();
        }
        made = counter.getThreadAllocatedBytes(Thread.currentThread().getId()) - before;
        Due.same("calls make nothing: " + made, made < 10000, true);
    }
}

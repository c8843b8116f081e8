import java.io.ByteArrayInputStream;
import java.io.DataInputStream;
import java.io.IOException;
import java.io.InputStream;
import java.util.ArrayList;
import java.util.HashMap;
import java.util.HashSet;
import java.util.List;
import java.util.Map;
import java.util.Set;
import java.util.TreeSet;

/** Rules of LANGUAGE.md as the compiled class shows them: what it calls and makes, and how deep calls go. */
public final class RulesTest {
    private static final int DEEP = 8;
    private static final int CALLS_OPEN = 300;
    private static final String LIBRARY = "java/lang/Object\\.<init>|java/lang/(Index|Illegal).*Exception\\.<init>"
            + "|java/util/NoSuchElementException\\.<init>|java/lang/String\\.(length|charAt)|java/lang/Math\\.(max|min|abs)"
            + "|java/lang/System\\.arraycopy|java/util/Arrays\\.fill";
    private static final int[] LENGTHS = lengths();

    private final Map<String, Set<String>> calls = new HashMap<>();
    private final Set<String> made = new TreeSet<>();
    private final Set<String> faults = new TreeSet<>();

    private RulesTest() {
    }

    public static void main(String[] args) throws IOException {
        RulesTest test = new RulesTest();
        List<String> names = new ArrayList<>();
        names.add("GentleRoad");
        for (Class<?> inside : GentleRoad.class.getDeclaredClasses()) {
            names.add(inside.getName());
        }
        Due.same("twelve classes at most", names.size() <= 12, true);
        for (String name : names) {
            test.read(name);
        }
        Due.same("what no rule allows", test.faults, "[]");
        Due.same("what is made", test.made.stream().filter(m -> !m.matches("GentleRoad\\$\\w+|java/lang/(IllegalState"
                + "|IllegalArgument|IndexOutOfBounds)Exception|java/util/NoSuchElementException")).toList(), "[]");
        test.depth();
        Due.close();
    }

    private void depth() {
        int deepest = 0;
        Due.same("methods were read", calls.size() > 150, true);
        for (String method : calls.keySet()) {
            deepest = Math.max(deepest, deep(method, new HashSet<>()));
        }
        Due.same("calls go eight deep at most: " + deepest, deepest <= DEEP, true);
    }

    /** The class calls none of its methods from itself, so this ends; a ring would be told by its depth. */
    private int deep(String method, Set<String> open) {
        if (!open.add(method)) {
            return CALLS_OPEN;
        }
        int most = 0;
        for (String called : calls.getOrDefault(method, Set.of())) {
            most = Math.max(most, calls.containsKey(called) ? deep(called, open) : 0);
        }
        open.remove(method);
        return most + 1;
    }

    // ---- the file of a class, by the Java machine's own rules

    private Object[] pool;
    private int[][] pairs;

    private void read(String name) throws IOException {
        byte[] bytes;
        try (InputStream in = RulesTest.class.getResourceAsStream("/" + name + ".class")) {
            bytes = in.readAllBytes();
        }
        DataInputStream in = new DataInputStream(new ByteArrayInputStream(bytes));
        in.skipBytes(8);
        readPool(in);
        in.skipBytes(6);
        in.skipBytes(2 * in.readUnsignedShort());
        for (int k = in.readUnsignedShort(); k > 0; k--) {
            in.skipBytes(4);
            String type = utf(in.readUnsignedShort());
            if (type.matches("\\[*L(?!GentleRoad\\$).*|\\[\\[.*")) {
                faults.add(name + " has a field of " + type);
            }
            skipAttributes(in);
        }
        for (int k = in.readUnsignedShort(); k > 0; k--) {
            int access = in.readUnsignedShort();
            String method = name + "." + utf(in.readUnsignedShort()) + utf(in.readUnsignedShort());
            if ((access & 0x0020) != 0) {
                faults.add(method + " is synchronized");
            }
            calls.put(method, new HashSet<>());
            for (int a = in.readUnsignedShort(); a > 0; a--) {
                String attribute = utf(in.readUnsignedShort());
                int length = in.readInt();
                if (attribute.equals("Code")) {
                    readCode(in, method);
                } else {
                    in.skipBytes(length);
                }
            }
        }
    }

    private void readPool(DataInputStream in) throws IOException {
        int size = in.readUnsignedShort();
        pool = new Object[size];
        pairs = new int[size][2];
        for (int k = 1; k < size; k++) {
            int tag = in.readUnsignedByte();
            switch (tag) {
                case 1: pool[k] = in.readUTF(); break;
                case 3: case 4: in.readInt(); break;
                case 5: case 6: in.readLong(); k++; break;
                case 7: case 8: case 16: case 19: case 20: pairs[k][0] = in.readUnsignedShort(); break;
                case 15: in.readUnsignedByte(); in.readUnsignedShort(); break;
                default: pairs[k][0] = in.readUnsignedShort(); pairs[k][1] = in.readUnsignedShort(); break;
            }
        }
    }

    private String utf(int k) {
        return (String) pool[k];
    }

    private String typeAt(int k) {
        return utf(pairs[k][0]);
    }

    private void skipAttributes(DataInputStream in) throws IOException {
        for (int a = in.readUnsignedShort(); a > 0; a--) {
            in.readUnsignedShort();
            in.skipBytes(in.readInt());
        }
    }

    private void readCode(DataInputStream in, String method) throws IOException {
        in.skipBytes(4);
        byte[] code = new byte[in.readInt()];
        in.readFully(code);
        int catches = in.readUnsignedShort();
        if (catches > 0) {
            faults.add(method + " catches");
        }
        in.skipBytes(8 * catches);
        skipAttributes(in);
        for (int at = 0; at < code.length; at += length(code, at)) {
            look(method, code, at);
        }
    }

    private void look(String method, byte[] code, int at) {
        int op = code[at] & 255;
        int wide = at + 2 < code.length ? (code[at + 1] & 255) << 8 | code[at + 2] & 255 : 0;
        if (op == 182 || op == 183 || op == 184 || op == 185) {
            int[] nameAndType = pairs[pairs[wide][1]];
            String called = typeAt(pairs[wide][0]) + "." + utf(nameAndType[0]) + utf(nameAndType[1]);
            calls.get(method).add(called);
            if (!called.startsWith("GentleRoad") && !called.replaceAll("\\(.*", "").matches(LIBRARY)) {
                faults.add(method + " calls " + called);
            }
        }
        if (op == 187) {
            made.add(typeAt(wide));
            if (!method.contains("<init>") && typeAt(wide).startsWith("GentleRoad")) {
                faults.add(method + " makes " + typeAt(wide));
            }
        }
        if ((op == 188 || op == 189) && !method.contains("<init>") && !method.contains("<clinit>")) {
            faults.add(method + " makes an array");
        }
        if (op == 191 && method.contains("init>")) {
            faults.add(method + " throws");
        }
        boolean isReal = op >= 11 && op <= 15 || op >= 98 && op <= 115 && (op - 96) % 4 >= 2 || op >= 149 && op <= 152;
        // invokedynamic, casts, instanceof, monitors, arrays of two dimensions, jsr and ret: none is needed here
        if (isReal || op == 186 || op == 192 || op == 193 || op == 194 || op == 195 || op == 197 || op == 168 || op == 169) {
            faults.add(method + " has the code " + op);
        }
    }

    private static int length(byte[] code, int at) {
        int op = code[at] & 255;
        int pad = at + 4 - at % 4;
        if (op == 170) {
            return pad + 12 + 4 * (number(code, pad + 8) - number(code, pad + 4) + 1) - at;
        }
        if (op == 171) {
            return pad + 8 + 8 * number(code, pad + 4) - at;
        }
        if (op == 196) {
            return (code[at + 1] & 255) == 132 ? 6 : 4;
        }
        return LENGTHS[op];
    }

    private static int number(byte[] code, int at) {
        return (code[at] & 255) << 24 | (code[at + 1] & 255) << 16 | (code[at + 2] & 255) << 8 | code[at + 3] & 255;
    }

    private static int[] lengths() {
        int[] lengths = new int[256];
        java.util.Arrays.fill(lengths, 1);
        for (int op : new int[] {16, 18, 21, 22, 23, 24, 25, 54, 55, 56, 57, 58, 169, 188}) {
            lengths[op] = 2;
        }
        for (int op = 153; op <= 168; op++) {
            lengths[op] = 3;
        }
        for (int op : new int[] {17, 19, 20, 132, 178, 179, 180, 181, 182, 183, 184, 187, 189, 192, 193, 198, 199}) {
            lengths[op] = 3;
        }
        for (int op : new int[] {185, 186, 200, 201}) {
            lengths[op] = 5;
        }
        lengths[197] = 4;
        return lengths;
    }
}

import java.lang.reflect.InvocationTargetException;
import java.lang.reflect.Method;
import java.nio.charset.StandardCharsets;
import java.util.HashMap;
import java.util.IdentityHashMap;
import java.util.Map;

/**
 * What the tests of the document's edges have in common. Each group of answers stands behind the words of the
 * document that it looks at; a call is written as a row of words, as in "best 0 8 1".
 */
abstract class Edges {
    static final String NO_PLACE = "throws.IndexOutOfBoundsException";
    static final String NO_SUCH = "throws.NoSuchElementException";
    static final String WRONG = "throws.IllegalArgumentException";
    static final String CANNOT = "throws.IllegalStateException";
    static final int LEAST = Integer.MIN_VALUE;
    static final int MOST = Integer.MAX_VALUE;
    static final int NONE = -1;

    /** The places round the middle one of a land of 3 by 3, by heading. */
    static final int[] AROUND = {1, 2, 5, 8, 7, 6, 3, 0};

    static final String FOUR = "land 2 2;row 1 2;row 3 4";

    private static final int CALLS = 512;
    private static final Map<String, Method> FACE = new HashMap<>();
    private static final Map<GentleRoad, Integer> MADE = new IdentityHashMap<>();
    private static String heading = "";
    private static String words = "";

    static {
        for (Method method : GentleRoad.class.getDeclaredMethods()) {
            if (java.lang.reflect.Modifier.isPublic(method.getModifiers())) {
                FACE.put(method.getName(), method);
            }
        }
    }

    static void under(String section) {
        heading = section;
        MADE.clear();
    }

    static void says(String quoted) {
        words = quoted;
        Due.same(heading + " has the words: " + quoted, Doc.quote(heading, quoted), true);
    }

    static void same(String what, Object got, Object want) {
        Due.same(heading + ": " + words + ": " + what, got, want);
    }

    /** What a call answers, or throws; an object is good for so many calls alone, so a test must not make more. */
    static String ask(GentleRoad x, String call) {
        if (MADE.merge(x, 1, Integer::sum) > CALLS) {
            same(call + " is a call too many", true, false);
        }
        String[] parts = call.split(" ");
        Method method = FACE.get(parts[0]);
        Object[] given = new Object[parts.length - 1];
        for (int k = 0; k < given.length; k++) {
            given[k] = method.getParameterTypes()[k] == boolean.class
                    ? (Object) Boolean.valueOf(parts[k + 1]) : (Object) Integer.valueOf(parts[k + 1]);
        }
        try {
            return String.valueOf(method.invoke(x, given));
        } catch (InvocationTargetException e) {
            return "throws." + e.getCause().getClass().getSimpleName();
        } catch (IllegalAccessException e) {
            throw new AssertionError(e);
        }
    }

    static void is(GentleRoad x, String call, Object want) {
        same(call, ask(x, call), want);
    }

    /** Several answers in a row, with blanks between. */
    static void are(GentleRoad x, String want, String... calls) {
        String[] all = want.split(" ");
        for (int k = 0; k < calls.length; k++) {
            is(x, calls[k], all[k]);
        }
    }

    static void did(GentleRoad x, String... calls) {
        for (String call : calls) {
            String got = ask(x, call);
            if (got.startsWith("throws")) {
                same(call + " is a call that is done", got, "no throw");
            }
        }
    }

    static void tell(GentleRoad x, String text) {
        byte[] bytes = text.getBytes(StandardCharsets.ISO_8859_1);
        for (int k = 0; k < bytes.length; k += 20) {
            int[] numbers = new int[5];
            for (int j = k; j < k + 20 && j < bytes.length; j++) {
                numbers[(j - k) / 4] |= (bytes[j] & 255) << (24 - 8 * (j % 4));
            }
            ask(x, "feed " + numbers[0] + " " + numbers[1] + " " + numbers[2] + " " + numbers[3] + " " + numbers[4]);
        }
        ask(x, "end " + bytes.length);
    }

    /** Places to go round, as bytes on the tape. */
    static void tellPlaces(GentleRoad x, int... places) {
        StringBuilder text = new StringBuilder();
        for (int place : places) {
            text.append((char) place);
        }
        tell(x, text.toString());
    }

    static GentleRoad land(String text) {
        GentleRoad x = new GentleRoad();
        tell(x, text);
        did(x, "land");
        return x;
    }

    static String level(int wide, int deep, int height, String more) {
        return Due.level(wide, deep, height, more);
    }

    static GentleRoad flat(int wide, int deep, String more) {
        return land(level(wide, deep, 0, more));
    }

    /** A land of 3 by 3 of such heights. */
    static GentleRoad nine(int[] heights, String more) {
        StringBuilder text = new StringBuilder("land 3 3");
        for (int place = 0; place < 9; place++) {
            text.append(place % 3 == 0 ? ";row " : " ").append(heights[place]);
        }
        return land(text + more);
    }

    static int[] heights(int all) {
        int[] heights = new int[9];
        java.util.Arrays.fill(heights, all);
        return heights;
    }

    static String way(GentleRoad x, int from, int to, int kind) {
        StringBuilder all = new StringBuilder();
        String place = ask(x, "along " + from + " " + to + " " + kind + " 0");
        for (int k = 1; !place.equals("-1") && !place.startsWith("throws"); k++) {
            all.append(k == 1 ? "" : " ").append(place);
            place = ask(x, "along " + from + " " + to + " " + kind + " " + k);
        }
        return all.toString();
    }

    static String row(GentleRoad x, int road, boolean offset) {
        StringBuilder all = new StringBuilder();
        String end = offset ? "100" : "-1";
        String one = ask(x, "at " + road + " 0 " + offset);
        for (int k = 1; !one.equals(end) && !one.startsWith("throws"); k++) {
            all.append(k == 1 ? "" : " ").append(one);
            one = ask(x, "at " + road + " " + k + " " + offset);
        }
        return all.toString();
    }

    static void wayIs(GentleRoad x, int from, int to, int kind, String want) {
        same("the way from " + from + " to " + to + " by " + kind, way(x, from, to, kind), want);
    }

    static void placesAre(GentleRoad x, int road, String want) {
        same("places of road " + road, row(x, road, false), want);
    }

    static void offsetsAre(GentleRoad x, int road, String want) {
        same("offsets of road " + road, row(x, road, true), want);
    }

    /** A mark ^ stands ahead of the first wrong byte; of such a text nothing stays. */
    static void wrong(String marked) {
        int at = marked.indexOf('^');
        String text = marked.replace("^", "");
        GentleRoad x = new GentleRoad();
        tell(x, text);
        same(text, ask(x, "land"), WRONG);
        same("fault of " + text, ask(x, "fault"), at);
        same("wide after " + text, ask(x, "count 0"), 0);
    }

    static GentleRoad right(String text, int places) {
        GentleRoad x = new GentleRoad();
        tell(x, text);
        same(text, ask(x, "land"), places);
        same("fault of " + text, ask(x, "fault"), NONE);
        return x;
    }

    /** Every second row is wet but for one end, so that one goes to and fro: 40 steps from 0 to 80. */
    static GentleRoad serpentine(String more) {
        GentleRoad x = land(level(9, 9, 50, ";bend 4;turn 0" + more));
        for (int row = 1; row < 9; row += 2) {
            for (int column = 0; column < 9; column++) {
                if (column != (row % 4 == 1 ? 8 : 0)) {
                    did(x, "flood " + (row * 9 + column) + " true");
                }
            }
        }
        return x;
    }

    /** At 1 one cannot turn to 7, but only at 0, so that a way from 4 to 13 comes to 1 twice. */
    static GentleRoad twice() {
        return land("land 5 3;row 0 0 1 0 0;row 0 0 0 0 0;row 0 9 0 0 0;bend 1;flat 0"
                + ";wet 5;wet 6;wet 8;wet 9;wet 10;wet 11;wet 14");
    }

    static int longOf(int heading) {
        return heading % 2 == 0 ? 10 : 14;
    }
}

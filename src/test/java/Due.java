import java.nio.charset.StandardCharsets;

/** What the tests have in common: answers that are due, exceptions that are due, a land from a text. */
final class Due {
    private static int wrong = 0;
    private static int asked = 0;

    interface Call {
        Object answer();
    }

    private Due() {
    }

    static void same(String what, Object got, Object want) {
        asked++;
        if (!String.valueOf(got).equals(String.valueOf(want))) {
            wrong++;
            System.out.println(what + " answered " + got + ", due is " + want);
        }
    }

    /** The class must be the very one: what the machine throws has a class of its own below it. */
    static void thrown(String what, Class<? extends RuntimeException> want, Call call) {
        String got;
        try {
            got = String.valueOf(call.answer());
        } catch (RuntimeException e) {
            got = e.getClass().getName();
        }
        same(what, got, want.getName());
    }

    static void noPlace(String what, Call call) {
        thrown(what, IndexOutOfBoundsException.class, call);
    }

    static void noSuch(String what, Call call) {
        thrown(what, java.util.NoSuchElementException.class, call);
    }

    static void wrongNumber(String what, Call call) {
        thrown(what, IllegalArgumentException.class, call);
    }

    static void cannot(String what, Call call) {
        thrown(what, IllegalStateException.class, call);
    }

    /** Puts bytes behind the tape, then cuts off what the last feed had too many. */
    static void tell(GentleRoad x, int before, byte[] bytes) {
        int[] numbers = new int[(bytes.length + 19) / 20 * 5];
        for (int k = 0; k < bytes.length; k++) {
            numbers[k / 4] |= (bytes[k] & 255) << (24 - 8 * (k % 4));
        }
        for (int k = 0; k < numbers.length; k += 5) {
            x.feed(numbers[k], numbers[k + 1], numbers[k + 2], numbers[k + 3], numbers[k + 4]);
        }
        x.end(before + bytes.length);
    }

    static void tell(GentleRoad x, String text) {
        tell(x, 0, text.getBytes(StandardCharsets.ISO_8859_1));
    }

    static void tellBytes(GentleRoad x, int... bytes) {
        byte[] row = new byte[bytes.length];
        for (int k = 0; k < bytes.length; k++) {
            row[k] = (byte) bytes[k];
        }
        tell(x, 0, row);
    }

    static GentleRoad land(String text) {
        GentleRoad x = new GentleRoad();
        tell(x, text);
        x.land();
        return x;
    }

    /** All places of one height, and then more clauses. */
    static String level(int wide, int deep, int height, String more) {
        StringBuilder text = new StringBuilder("land " + wide + " " + deep);
        for (int row = 0; row < deep; row++) {
            text.append(";row");
            for (int column = 0; column < wide; column++) {
                text.append(' ').append(height);
            }
        }
        return text + more;
    }

    /** The places of a best way, one behind another. */
    static String way(GentleRoad x, int from, int to, int kind) {
        StringBuilder all = new StringBuilder();
        for (int k = 0; x.along(from, to, kind, k) != GentleRoad.NONE; k++) {
            all.append(k == 0 ? "" : " ").append(x.along(from, to, kind, k));
        }
        return all.toString();
    }

    static String places(GentleRoad x, int road) {
        StringBuilder all = new StringBuilder();
        for (int k = 0; x.at(road, k, false) != GentleRoad.NONE; k++) {
            all.append(k == 0 ? "" : " ").append(x.at(road, k, false));
        }
        return all.toString();
    }

    static String offsets(GentleRoad x, int road) {
        StringBuilder all = new StringBuilder();
        for (int k = 0; x.at(road, k, true) != 100; k++) {
            all.append(k == 0 ? "" : " ").append(x.at(road, k, true));
        }
        return all.toString();
    }

    static void close() {
        System.out.println(asked + " answers, " + wrong + " are not as due");
        if (wrong != 0) {
            System.exit(1);
        }
    }
}

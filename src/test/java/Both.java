import java.util.ArrayList;
import java.util.List;

/** A GentleRoad and a Plain that get the same calls; what they answer must be alike. */
final class Both {
    private static final int SHOWN = 3;
    private static final String CUT_OFF = "7s;3 dwet0z ";
    private static int wrong = 0;
    private static int calls = 0;

    interface Call {
        Object answer();
    }

    private GentleRoad road = new GentleRoad();
    private Plain plain = new Plain();
    private final List<String> told = new ArrayList<>();
    private int made = 0;
    private boolean broken = false;

    static int wrong() {
        return wrong;
    }

    static int calls() {
        return calls;
    }

    boolean isSpent() {
        return broken || made >= 512;
    }

    /** The class of an exception counts exactly: what the machine throws has a class of its own. */
    private static String outcome(Call call) {
        try {
            return String.valueOf(call.answer());
        } catch (RuntimeException e) {
            return "throws." + e.getClass().getSimpleName();
        }
    }

    private String check(String name, Call ours, Call due) {
        if (isSpent()) {
            return "";
        }
        made++;
        calls++;
        String got = outcome(ours);
        String want = outcome(due);
        told.add(name + " = " + got);
        if (!got.equals(want)) {
            wrong++;
            broken = true;
            if (wrong <= SHOWN) {
                told.forEach(System.out::println);
                System.out.println("due is " + want);
            }
        }
        return got;
    }

    /** What the call answers; nothing, if the run is over. */
    String call(String name, int... a) {
        String shown = name + java.util.Arrays.toString(a);
        return check(shown, () -> ours(name, a), () -> due(name, a));
    }

    private Object ours(String name, int[] a) {
        switch (name) {
            case "feed": return road.feed(a[0], a[1], a[2], a[3], a[4]);
            case "end": return road.end(a[0]);
            case "land": return road.land();
            case "fault": return road.fault();
            case "place": return road.place(a[0], a[1]);
            case "term": return road.term(a[0]);
            case "tune": return road.tune(a[0], a[1]);
            case "raise": return road.raise(a[0], a[1]);
            case "flood": return road.flood(a[0], a[1] != 0);
            case "build": return road.build(a[0], a[1], a[2]);
            case "drop": return road.drop(a[0]);
            case "level": return road.level(a[0], a[1]);
            case "undo": return road.undo();
            case "best": return road.best(a[0], a[1], a[2]);
            case "along": return road.along(a[0], a[1], a[2], a[3]);
            case "reach": return road.reach(a[0]);
            case "grade": return road.grade(a[0], a[1]);
            case "gate": return road.gate(a[0], a[1]);
            case "bored": return road.bored(a[0], a[1], a[2]);
            case "meet": return road.meet(a[0], a[1], a[2], a[3]);
            case "round": return road.round();
            case "road": return road.road(a[0], a[1]);
            case "at": return road.at(a[0], a[1], a[2] != 0);
            case "earth": return road.earth(a[0], a[1]);
            case "water": return road.water(a[0], a[1]);
            case "bridges": return road.bridges(a[0], a[1]);
            case "joins": return road.joins(a[0], a[1], a[2]);
            case "spare": return road.spare(a[0], a[1], a[2]);
            case "stages": return road.stages(a[0], a[1]);
            case "common": return road.common(a[0], a[1]);
            case "image": road.image(); return "";
            case "back": return road.back();
            case "count": return road.count(a[0]);
            default: throw new AssertionError(name);
        }
    }

    private Object due(String name, int[] a) {
        switch (name) {
            case "feed": return plain.feed(a);
            case "end": return plain.end(a[0]);
            case "land": return plain.land();
            case "fault": return plain.fault();
            case "place": return plain.place(a[0], a[1]);
            case "term": return plain.term(a[0]);
            case "tune": return plain.tune(a[0], a[1]);
            case "raise": return plain.raise(a[0], a[1]);
            case "flood": return plain.flood(a[0], a[1] != 0);
            case "build": return plain.build(a[0], a[1], a[2]);
            case "drop": return plain.drop(a[0]);
            case "level": return plain.level(a[0], a[1]);
            case "undo": return plain.undo();
            case "best": return plain.best(a[0], a[1], a[2]);
            case "along": return plain.along(a[0], a[1], a[2], a[3]);
            case "reach": return plain.reach(a[0]);
            case "grade": return plain.grade(a[0], a[1]);
            case "gate": return plain.gate(a[0], a[1]);
            case "bored": return plain.bored(a[0], a[1], a[2]);
            case "meet": return plain.meet(a[0], a[1], a[2], a[3]);
            case "round": return plain.round();
            case "road": return plain.road(a[0], a[1]);
            case "at": return plain.at(a[0], a[1], a[2] != 0);
            case "earth": return plain.earth(a[0], a[1]);
            case "water": return plain.water(a[0], a[1]);
            case "bridges": return plain.bridges(a[0], a[1]);
            case "joins": return plain.joins(a[0], a[1], a[2]);
            case "spare": return plain.spare(a[0], a[1], a[2]);
            case "stages": return plain.stages(a[0], a[1]);
            case "common": return plain.common(a[0], a[1]);
            case "image": plain.image(); return "";
            case "back": return plain.back();
            case "count": return plain.count(a[0]);
            default: throw new AssertionError(name);
        }
    }

    /** Puts a text on an empty tape; what is cut off then looks like more of it, so that it would be seen if read. */
    void tell(String text) {
        told.add("text: " + text);
        byte[] bytes = text.getBytes(java.nio.charset.StandardCharsets.ISO_8859_1);
        int[] numbers = new int[(bytes.length + 19) / 20 * 5];
        for (int k = 0; k < 4 * numbers.length; k++) {
            int one = k < bytes.length ? bytes[k] & 255 : CUT_OFF.charAt((k * 7 + bytes.length) % CUT_OFF.length());
            numbers[k / 4] |= one << (24 - 8 * (k % 4));
        }
        for (int k = 0; k < numbers.length; k += 5) {
            call("feed", java.util.Arrays.copyOfRange(numbers, k, k + 5));
        }
        call("end", bytes.length);
    }

    /** Whether the answers are alike up to now; a run that went wrong is not gone on with. */
    boolean isBroken() {
        return broken;
    }
}

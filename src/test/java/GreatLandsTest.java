import java.util.Random;

/** Ways over great and rough lands (the same ones each time) from a place to all others, measured by Plain. */
public final class GreatLandsTest {
    private static final int[] MOST = {99, 4, 12, 9, 9, 99, 30};
    private static final String[] WORDS = {"grade", "bend", "flat", "rise", "turn", "hair", "bore"};
    private static final int[] LEAST = {20, 0, 0, 0, 0, 0, 0};

    private GreatLandsTest() {
    }

    public static void main(String[] args) {
        int lands = args.length > 0 ? Integer.parseInt(args[0]) : 300;
        long first = args.length > 1 ? Long.parseLong(args[1]) : 0;
        for (int land = 0; land < lands; land++) {
            go(new Random(first + land));
        }
        System.out.println("over " + lands + " lands:");
        Due.close();
    }

    private static void go(Random chance) {
        int wide = 6 + chance.nextInt(4);
        int deep = 3 + chance.nextInt(7);
        String text = text(chance, wide, deep);
        GentleRoad road = Due.land(text);
        Plain plain = new Plain();
        plain.tell(text);
        plain.land();
        build(chance, road, plain, wide * deep);
        for (int k = 0; k < 5; k++) {
            int from = chance.nextInt(wide * deep);
            int kind = chance.nextInt(6);
            int[] due = plain.bests(from, kind);
            for (int to = 0; to < wide * deep; to++) {
                if (to != from) {
                    Due.same(text + " best " + from + " " + to + " " + kind, road.best(from, to, kind), due[to]);
                }
            }
        }
    }

    /** Roads that are used, so that the fourth kind is unlike the first. */
    private static void build(Random chance, GentleRoad road, Plain plain, int places) {
        for (int which = 0; which < 4; which++) {
            int from = chance.nextInt(places);
            int to = (from + 1 + chance.nextInt(places - 1)) % places;
            String got = outcome(() -> road.build(0, from, to));
            Due.same("build " + from + " " + to, got, outcome(() -> plain.build(0, from, to)));
        }
    }

    private static String outcome(Due.Call call) {
        try {
            return String.valueOf(call.answer());
        } catch (IllegalStateException e) {
            return "throws";
        }
    }

    private static String text(Random chance, int wide, int deep) {
        StringBuilder text = new StringBuilder("land " + wide + " " + deep);
        int rough = 1 + chance.nextInt(12);
        for (int row = 0; row < deep; row++) {
            text.append(";row");
            for (int column = 0; column < wide; column++) {
                text.append(' ').append(chance.nextInt(rough));
            }
        }
        for (int which = 0; which < WORDS.length; which++) {
            int value = LEAST[which] + chance.nextInt(MOST[which] - LEAST[which] + 1);
            text.append(';').append(WORDS[which]).append(' ').append(value);
        }
        return text.toString();
    }
}

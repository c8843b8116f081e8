import java.util.Random;

/**
 * Roads that come to a place twice, or go a step to and fro, measured by Plain. Runs by chance seldom have one: it
 * needs a land in which one can turn at few places alone, so such lands are made until there are enough of them.
 */
public final class ComeTwiceTest {
    private static final int ENOUGH = 150;
    private static final int LANDS_PER_ROAD = 100;
    private static final int TRIES = 40;
    private static final int WET = 20;

    private final Random chance;
    private final Both both = new Both();
    private int wide;
    private int deep;

    private ComeTwiceTest(long seed) {
        chance = new Random(seed);
    }

    public static void main(String[] args) {
        int enough = args.length > 0 ? Integer.parseInt(args[0]) : ENOUGH;
        long first = args.length > 1 ? Long.parseLong(args[1]) : 0;
        int found = 0;
        for (long land = 0; land < LANDS_PER_ROAD * enough && found < enough; land++) {
            found += new ComeTwiceTest(first + land).go() ? 1 : 0;
        }
        System.out.println(found + " roads, " + Both.calls() + " calls, " + Both.wrong() + " runs went wrong");
        if (Both.wrong() != 0 || found < enough) {
            System.exit(1);
        }
    }

    private int upTo(int most) {
        return chance.nextInt(most + 1);
    }

    /** Whether there was such a road. */
    private boolean go() {
        tellLand();
        for (int tries = 0; tries < TRIES; tries++) {
            int from = upTo(wide * deep - 1);
            int to = upTo(wide * deep - 1);
            if (comesTwice(from, to)) {
                askRoad(from, to);
                askWays(from, to);
                return true;
            }
        }
        return false;
    }

    private void tellLand() {
        wide = 3 + upTo(4);
        deep = 3 + upTo(3);
        StringBuilder text = new StringBuilder("land " + wide + " " + deep);
        for (int row = 0; row < deep; row++) {
            text.append(";row");
            for (int column = 0; column < wide; column++) {
                text.append(' ').append(upTo(3) == 0 ? 1 + upTo(3) : 0);
            }
        }
        text.append(";grade 40;bend ").append(upTo(1)).append(";flat ").append(upTo(1));
        text.append(";turn ").append(upTo(3)).append(";hair ").append(upTo(30)).append(";rise ").append(upTo(3));
        text.append(";depth ").append(1 + upTo(2)).append(";spoil ").append(upTo(6));
        text.append(";dig ").append(upTo(3)).append(";fill ").append(upTo(3));
        both.tell(text.toString());
        both.call("land");
        for (int place = 0; place < wide * deep; place++) {
            if (upTo(99) < WET) {
                both.call("flood", place, 1);
            }
        }
    }

    private boolean comesTwice(int from, int to) {
        if (both.call("build", 0, from, to).startsWith("throws")) {
            return false;
        }
        // a bridge counts each place once, and everywhere comes water from one place at least
        return !both.call("road", 0, 0).equals(both.call("bridges", 0, 1));
    }

    private void askRoad(int from, int to) {
        both.call("build", 1, to, from);
        both.call("build", 2, from, upTo(wide * deep - 1));
        both.call("raise", upTo(wide * deep - 1), 1);
        for (int rule : new int[] {0, 8, 10, 15, 20, 99}) {
            both.call("earth", 0, rule);
            both.call("level", 0, rule);
            for (int k = 0; k < 24; k++) {
                both.call("at", 0, k, 1);
            }
            both.call("road", 0, 7);
        }
        for (int what = 0; what < 15; what++) {
            both.call("road", 0, what);
        }
        for (int n = 1; n <= 6; n++) {
            both.call("stages", 0, n);
            both.call("bridges", 0, n);
        }
        for (int other = 1; other < 3; other++) {
            both.call("common", 0, other);
            both.call("common", other, 0);
        }
    }

    private void askWays(int from, int to) {
        for (int kind = 0; kind < 6; kind++) {
            both.call("best", from, to, kind);
            for (int k = 0; k < 14; k++) {
                both.call("along", from, to, kind, k);
            }
        }
        both.call("spare", from, to, 0);
        both.call("spare", from, to, 1);
        both.call("spare", to, from, 0);
        both.call("gate", from, to);
        both.call("gate", to, from);
        both.call("grade", from, to);
        both.call("bored", from, to, 1);
        both.call("reach", from);
        for (int k = 0; k < 4; k++) {
            int place = upTo(wide * deep - 1);
            both.call("joins", place, 0, 0);
            both.call("joins", place, 0, 1);
            both.call("meet", from, to, place, 0);
        }
        both.call("undo");
        both.call("road", 0, 8);
    }
}

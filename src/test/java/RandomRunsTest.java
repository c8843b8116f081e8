import java.util.Random;

/** Runs of calls by chance (the same ones each time), each answer measured by Plain. */
public final class RandomRunsTest {
    private static final String[] WORDS =
            {"grade", "bend", "flat", "rise", "turn", "hair", "bore", "depth", "dig", "fill", "spoil"};
    private static final int[] MOST = {99, 4, 99, 9, 9, 99, 99, 3, 9, 9, 30};
    private static final String[] CALLS = {"place", "term", "tune", "raise", "flood", "build", "build", "build", "drop",
        "level", "level", "undo", "best", "best", "along", "along", "along", "reach", "grade", "gate", "bored", "meet",
        "round", "road", "road", "road", "at", "earth", "water", "bridges", "joins", "spare", "stages", "common",
        "image", "back", "count", "land"};

    private final Random chance;
    private final Both both = new Both();
    private int wide = 2;
    private int deep = 2;

    private RandomRunsTest(long seed) {
        chance = new Random(seed);
    }

    public static void main(String[] args) {
        int runs = args.length > 0 ? Integer.parseInt(args[0]) : 1500;
        long first = args.length > 1 ? Long.parseLong(args[1]) : 0;
        for (int run = 0; run < runs; run++) {
            new RandomRunsTest(first + run).go(run % 10 == 0 ? 9 : run % 3 == 0 ? 6 : 4);
        }
        System.out.println(Both.calls() + " calls, " + Both.wrong() + " runs went wrong");
        if (Both.wrong() != 0) {
            System.exit(1);
        }
    }

    private void go(int size) {
        tellLand(size);
        if (upTo(3) == 0) {
            tellMaze();
        }
        int calls = size == 9 ? 40 : 120;
        for (int k = 0; k < calls && !both.isSpent(); k++) {
            one(CALLS[chance.nextInt(CALLS.length)], size);
        }
    }

    private int upTo(int most) {
        return chance.nextInt(most + 1);
    }

    private void tellLand(int size) {
        wide = 2 + upTo(size - 2);
        deep = 2 + upTo(size - 2);
        int rough = new int[] {0, 1, 3, 6, 12, 30, 99}[upTo(6)];
        StringBuilder text = new StringBuilder("land " + wide + " " + deep);
        for (int row = 0; row < deep; row++) {
            text.append(";row");
            for (int column = 0; column < wide; column++) {
                text.append(' ').append(Math.min(99, (chance.nextBoolean() ? row + column : 0) + upTo(rough)));
            }
        }
        boolean[] wet = new boolean[wide * deep];
        int clauses = 0;
        for (int k = upTo(4); k > 0; k--) {
            int place = upTo(wide * deep - 1);
            if (!wet[place]) {
                wet[place] = true;
                clauses++;
                text.append(";wet ").append(place);
            }
        }
        for (int which = 0; which < WORDS.length && clauses < 14; which++) {
            if (upTo(2) == 0) {
                clauses++;
                text.append(';').append(WORDS[which]).append(' ').append(termValue(which));
            }
        }
        both.tell(text.toString());
        both.call("land");
        both.call("fault");
    }

    /** Much water, so that ways are long and come to places again. */
    private void tellMaze() {
        int share = 20 + upTo(25);
        for (int place = 0; place < wide * deep; place++) {
            if (upTo(99) < share) {
                both.call("flood", place, 1);
            }
        }
    }

    private int termValue(int which) {
        return which == 0 ? 1 + upTo(upTo(1) == 0 ? 98 : 40) : which == 2 ? upTo(upTo(1) == 0 ? 8 : 99) : upTo(MOST[which]);
    }

    /** Mostly a right one. */
    private int pick(int many) {
        int[] none = {-1, many, many + 1, 100, Integer.MIN_VALUE, Integer.MAX_VALUE};
        return upTo(60) == 0 ? none[upTo(5)] : upTo(many - 1);
    }

    private int aPlace() {
        return pick(wide * deep);
    }

    private void one(String name, int size) {
        switch (name) {
            case "place": both.call(name, aPlace(), pick(4)); break;
            case "term": both.call(name, pick(11)); break;
            case "tune": {
                int which = pick(11);
                both.call(name, which, which < 0 || which > 10 || upTo(20) == 0 ? upTo(120) - 10 : termValue(which));
                break;
            }
            case "raise": both.call(name, aPlace(), upTo(20) == 0 ? upTo(300) - 150 : upTo(8) - 4); break;
            case "flood": both.call(name, aPlace(), upTo(2) == 0 ? 1 : 0); break;
            case "build": both.call(name, pick(4), aPlace(), aPlace()); break;
            case "drop": both.call(name, pick(4)); break;
            case "level":
            case "earth": both.call(name, pick(4), pick(upTo(1) == 0 ? 100 : 30)); break;
            case "undo":
            case "image":
            case "back": both.call(name); break;
            case "best": both.call(name, aPlace(), aPlace(), pick(6)); break;
            case "along": alongAll(); break;
            case "reach": both.call(name, aPlace()); break;
            case "grade":
            case "gate": both.call(name, aPlace(), aPlace()); break;
            case "bored": both.call(name, aPlace(), aPlace(), pick(4)); break;
            case "meet": both.call(name, aPlace(), aPlace(), aPlace(), pick(2)); break;
            case "round": goRound(); break;
            case "road": roadAll(); break;
            case "at": atAll(); break;
            case "water": both.call(name, aPlace(), pick(3)); break;
            case "bridges": both.call(name, pick(4), upTo(2) == 0 ? pick(82) : 1 + upTo(5)); break;
            case "joins": both.call(name, aPlace(), pick(4), pick(2)); break;
            case "spare": {
                int from = aPlace();
                int to = aPlace();
                both.call(name, from, to, 0);
                both.call(name, from, to, pick(2));
                break;
            }
            case "stages": both.call(name, pick(4), pick(7)); break;
            case "common": both.call(name, pick(4), pick(4)); break;
            case "count": both.call(name, pick(6)); break;
            default:
                if (upTo(3) == 0) {
                    tellLand(size);
                }
        }
    }

    private void alongAll() {
        int from = aPlace();
        int to = aPlace();
        int kind = pick(6);
        for (int k = -1; k < 12; k++) {
            both.call("along", from, to, kind, k);
        }
    }

    private void atAll() {
        int road = pick(4);
        for (int k = -1; k < 8; k++) {
            both.call("at", road, k, 0);
            both.call("at", road, k, 1);
        }
    }

    private void roadAll() {
        int road = pick(4);
        if (upTo(3) != 0) {
            both.call("road", road, pick(15));
            return;
        }
        for (int what = 0; what < 15; what++) {
            both.call("road", road, what);
        }
    }

    private void goRound() {
        StringBuilder text = new StringBuilder();
        int many = upTo(15) == 0 ? upTo(8) : 2 + upTo(4);
        for (int k = 0; k < many; k++) {
            int place = upTo(wide * deep - 1);
            if (text.indexOf(String.valueOf((char) place)) < 0 || upTo(30) == 0) {
                text.append((char) (upTo(80) == 0 ? upTo(255) : place));
            }
        }
        both.tell(text.toString());
        both.call("round");
        both.call("fault");
    }
}

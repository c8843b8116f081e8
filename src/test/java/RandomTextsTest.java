import java.util.Random;

/** Texts by chance (the same ones each time), right and a little wrong, measured by Plain. */
public final class RandomTextsTest {
    private static final String[] WORDS =
            {"grade", "bend", "flat", "rise", "turn", "hair", "bore", "depth", "dig", "fill", "spoil"};
    private static final int[] MOST = {99, 4, 99, 9, 9, 99, 99, 3, 9, 9, 30};
    private static final String SIGNS = "    ;;;;0123456789abdefghilnoprstuwzA\t\0\u00e9";
    private static final String[] THINGS = {"land", "row", "wet", "grade", "spoil", ";", "0", "9", "10", "99", "100", "x"};

    private final Random chance;

    private RandomTextsTest(long seed) {
        chance = new Random(seed);
    }

    public static void main(String[] args) {
        int runs = args.length > 0 ? Integer.parseInt(args[0]) : 4000;
        for (int run = 0; run < runs; run++) {
            new RandomTextsTest(run).go();
        }
        System.out.println(Both.calls() + " calls, " + Both.wrong() + " runs went wrong");
        if (Both.wrong() != 0) {
            System.exit(1);
        }
    }

    private void go() {
        Both both = new Both();
        for (int k = 0; k < 8 && !both.isBroken(); k++) {
            String text = text();
            for (int change = chance.nextInt(3); change > 0; change--) {
                text = changed(text);
            }
            both.tell(text.length() > 400 ? text.substring(0, 400) : text);
            both.call("land");
            both.call("fault");
            for (int what = 0; what < 3; what++) {
                both.call("count", what);
            }
            for (int what = 0; what < 11; what++) {
                both.call("term", what);
            }
            both.call("place", chance.nextInt(6), 0);
        }
    }

    private int upTo(int most) {
        return chance.nextInt(most + 1);
    }

    private String blanks() {
        return " ".repeat(upTo(9) == 0 ? upTo(2) : 0);
    }

    private String number(int most) {
        int n = upTo(40) == 0 ? upTo(120) : upTo(most);
        return blanks() + (upTo(20) == 0 ? "0" : "") + n + blanks();
    }

    private String text() {
        int wide = 2 + upTo(2);
        int deep = 2 + upTo(2);
        StringBuilder text = new StringBuilder(blanks() + "land " + wide + " " + deep);
        for (int row = 0; row < deep; row++) {
            text.append(blanks()).append(";").append(blanks()).append("row");
            for (int column = 0; column < wide; column++) {
                text.append(column == 0 && upTo(3) == 0 ? "" : " ").append(number(99));
            }
        }
        for (int clause = upTo(upTo(1) == 0 ? 3 : 17); clause > 0; clause--) {
            int which = upTo(16);
            text.append(";").append(blanks());
            if (which < 11) {
                text.append(WORDS[which]).append(number(MOST[which]));
            } else {
                text.append("wet").append(number(wide * deep - 1));
            }
        }
        return text.toString();
    }

    private String changed(String text) {
        int at = upTo(text.length());
        int to = Math.min(text.length(), at + upTo(2));
        String with = upTo(2) == 0 ? THINGS[upTo(THINGS.length - 1)] : String.valueOf(SIGNS.charAt(upTo(SIGNS.length() - 1)));
        switch (upTo(3)) {
            case 0: return text.substring(0, at) + with + text.substring(at);
            case 1: return text.substring(0, at) + with + text.substring(to);
            case 2: return text.substring(0, at) + text.substring(to);
            default: return upTo(3) == 0 ? text.substring(0, at) : text + with;
        }
    }
}

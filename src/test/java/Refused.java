/** A call that is refused, on an object that has something of everything: it must be as if it had not been made. */
abstract class Refused extends Edges {
    private static String asItWas = null;

    /**
     * Six places, of which 5 is wet; roads 0 (levelled) and 1, none of 2 and 3; an image, four acts, a wrong text's
     * fault, and places 0 1 4 on the tape.
     */
    static GentleRoad rich() {
        GentleRoad x = land("land 3 2;row 0 1 3;row 2 2 99;wet 5;depth 2");
        did(x, "image", "tune 5 33", "build 0 0 2", "level 0 10", "build 1 3 4");
        tell(x, "land 2 1");
        ask(x, "land");
        tellPlaces(x, 0, 1, 4);
        return x;
    }

    private static String now(GentleRoad x) {
        StringBuilder all = new StringBuilder();
        for (int what = 0; what < 6; what++) {
            all.append(ask(x, "count " + what)).append(' ');
        }
        for (int what = 0; what < 11; what++) {
            all.append(ask(x, "term " + what)).append(' ');
        }
        for (int place = 0; place < 7; place++) {
            all.append(ask(x, "place " + place + " 0")).append(ask(x, "place " + place + " 1")).append(' ');
        }
        for (int road = 0; road < 4; road++) {
            all.append('/').append(row(x, road, false)).append('/').append(row(x, road, true));
        }
        return all.append(ask(x, "fault")).append('\n').toString();
    }

    /** All that can be asked, with the tape, what is remembered, and the image. */
    private static String everything(GentleRoad x) {
        StringBuilder all = new StringBuilder(now(x));
        all.append(ask(x, "end 4")).append(ask(x, "round")).append('\n');
        for (int k = 0; k < 4; k++) {
            all.append(ask(x, "undo")).append(' ').append(now(x));
        }
        all.append(ask(x, "undo")).append(ask(x, "back")).append(now(x));
        return all.toString();
    }

    static void refused(String want, String... calls) {
        if (asItWas == null) {
            asItWas = everything(rich());
        }
        for (String call : calls) {
            GentleRoad x = rich();
            is(x, call, want);
            same("after " + call, everything(x), asItWas);
        }
    }

    /** A mark P stands for a number that is no place, R for one that is no road. */
    static void noPlace(String... calls) {
        for (String call : calls) {
            for (int none : new int[] {-1, call.contains("P") ? 6 : 4, LEAST, MOST}) {
                refused(NO_PLACE, call.replaceAll("[PR]", "" + none));
            }
        }
    }

    /** A mark N stands for a number; the last below and the first above those that are, and the farthest. */
    static void beyond(String want, int least, int most, String... calls) {
        for (String call : calls) {
            for (int none : new int[] {least - 1, most + 1, LEAST, MOST}) {
                refused(want, call.replace("N", "" + none));
            }
        }
    }
}

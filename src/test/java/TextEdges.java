/** The document's Terms, first part: bounds of the land and its terms, and the text that tells it. */
final class TextEdges extends Edges {
    private static final String[] WORDS =
            {"grade", "bend", "flat", "rise", "turn", "hair", "bore", "depth", "dig", "fill", "spoil"};
    private static final String[] TERMS = {"GRADE 1 to 99 (20 at first)", "BEND 0 to 4 (1)", "FLAT 0 to 99 (2)",
        "RISE 0 to 9 (2)", "TURN 0 to 9 (1)", "HAIR 0 to 99 (20)", "BORE 0 to 99 (50)", "DEPTH 0 to 3 (1)",
        "DIG 0 to 9 (1)", "FILL 0 to 9 (1)", "SPOIL 0 to 30 (5)"};
    private static final String ELEVEN = ";grade 1;bend 0;flat 0;rise 0;turn 0;hair 0;bore 0;depth 0;dig 0;fill 0;spoil 0";

    private TextEdges() {
    }

    static void run() {
        under("Terms");
        size();
        places();
        terms();
        roads();
        offsets();
        form();
        clauses();
        termsNoneTwice();
        takesThePlace();
        numbers();
        words();
        blanks();
        firstWrong();
        moreMustCome();
        nothingStays();
    }

    private static void size() {
        says("THE LAND: WIDE 2 to 9");
        wrong("land ^0 2;row;row");
        wrong("land ^1 2;row 0;row 0");
        is(right("land 2 2;row 0 0;row 0 0", 4), "count 0", 2);
        is(right(level(9, 2, 0, ""), 18), "count 0", 9);
        wrong("land ^10 2;row 0 0 0 0 0 0 0 0 0 0;row 0 0 0 0 0 0 0 0 0 0");
        wrong("land ^99 2");
        says("DEEP 2 to 9");
        wrong("land 2 ^0");
        wrong("land 2 ^1;row 0 0");
        is(right("land 2 2;row 0 0;row 0 0", 4), "count 1", 2);
        is(right(level(2, 9, 0, ""), 18), "count 1", 9);
        wrong("land 2 ^10;row 0 0;row 0 0;row 0 0;row 0 0;row 0 0;row 0 0;row 0 0;row 0 0;row 0 0;row 0 0");
        right(level(9, 9, 0, ""), 81);
    }

    private static void places() {
        says("PLACES numbered from 0 on, row by row (none at first)");
        is(new GentleRoad(), "place 0 0", NO_PLACE);
        is(new GentleRoad(), "place -1 0", NO_PLACE);
        GentleRoad x = land("land 3 2;row 10 11 12;row 13 14 15");
        for (int place = 0; place < 6; place++) {
            is(x, "place " + place + " 0", 10 + place);
        }
        is(x, "place 6 0", NO_PLACE);
        is(x, "place -1 0", NO_PLACE);
        is(flat(9, 9, ""), "place 80 0", 0);
        is(flat(9, 9, ""), "place 81 0", NO_PLACE);
        says("of each its HEIGHT 0 to 99");
        are(right("land 2 2;row 0 99;row 99 0", 4), "0 99 99 0", "place 0 0", "place 1 0", "place 2 0", "place 3 0");
        wrong("land 2 2;row 0 ^100;row 0 0");
        wrong("land 2 2;row ^-1 0;row 0 0");
        wrong("land 2 2;row 0 0;row 0 ^100");
        says("WET or not (not at first)");
        GentleRoad y = flat(2, 2, "");
        are(y, "0 0 0 0 0", "place 0 1", "place 1 1", "place 2 1", "place 3 1", "count 2");
        are(flat(2, 2, ";wet 2"), "0 0 1 0 1", "place 0 1", "place 1 1", "place 2 1", "place 3 1", "count 2");
        is(flat(2, 2, ";wet 0;wet 1;wet 2;wet 3"), "count 2", 4);
    }

    private static void terms() {
        int[] least = {1, 0, 0, 0, 0, 0, 0, 0, 0, 0, 0};
        int[] most = {99, 4, 99, 9, 9, 99, 99, 3, 9, 9, 30};
        int[] first = {20, 1, 2, 2, 1, 20, 50, 1, 1, 1, 5};
        for (int what = 0; what < 11; what++) {
            says(TERMS[what]);
            String clause = ";" + WORDS[what] + " ";
            is(new GentleRoad(), "term " + what, first[what]);
            is(land(FOUR), "term " + what, first[what]);
            is(right(FOUR + clause + least[what], 4), "term " + what, least[what]);
            is(right(FOUR + clause + most[what], 4), "term " + what, most[what]);
            wrong(FOUR + clause + "^" + (least[what] - 1));
            wrong(FOUR + clause + "^" + (most[what] + 1));
            GentleRoad x = new GentleRoad();
            is(x, "tune " + what + " " + (least[what] - 1), WRONG);
            is(x, "tune " + what + " " + (most[what] + 1), WRONG);
            is(x, "tune " + what + " " + LEAST, WRONG);
            is(x, "tune " + what + " " + MOST, WRONG);
            is(x, "tune " + what + " " + least[what], first[what]);
            is(x, "tune " + what + " " + most[what], least[what]);
            is(x, "term " + what, most[what]);
        }
    }

    private static void roads() {
        says("ROADS 0 to 3");
        GentleRoad x = flat(3, 2, "");
        for (int road = 0; road < 4; road++) {
            is(x, "build " + road + " 0 2", 20);
        }
        is(x, "count 3", 15);
        for (int road : new int[] {-1, 4, LEAST, MOST}) {
            String[] calls = {"build R 0 1", "drop R", "level R 20", "road R 0", "at R 0 false", "at R 0 true",
                "earth R 20", "bridges R 1", "joins 0 R 0", "stages R 1", "common R 0", "common 0 R", "common R R"};
            for (String call : calls) {
                is(x, call.replace("R", "" + road), NO_PLACE);
            }
        }
        is(x, "count 3", 15);
        says("BUILT or not (not at first)");
        for (GentleRoad y : new GentleRoad[] {new GentleRoad(), flat(3, 2, "")}) {
            is(y, "count 3", 0);
            for (int road = 0; road < 4; road++) {
                String[] calls = {"drop R", "level R 20", "road R 0", "at R 0 false", "at R 0 true", "earth R 20",
                    "bridges R 1", "stages R 1"};
                for (String call : calls) {
                    is(y, call.replace("R", "" + road), CANNOT);
                }
                is(y, "common " + road + " " + (road + 1) % 4, CANNOT);
            }
        }
        says("PLACES one behind another (2 to 40)");
        is(x, "build 0 0 1", 10);
        placesAre(x, 0, "0 1");
        is(x, "road 0 0", 2);
        is(x, "build 0 0 0", WRONG);
        GentleRoad y = serpentine("");
        is(y, "build 0 0 79", 8 * 14 + 31 * 10);
        is(y, "road 0 0", 40);
        is(y, "at 0 39 false", 79);
        is(y, "at 0 40 false", NONE);
        is(y, "build 1 0 80", CANNOT);
    }

    private static void offsets() {
        says("of each an OFFSET - 3 to 3 (0 at first)");
        GentleRoad x = land("land 2 2;row 0 6;row 90 90;grade 99;depth 3");
        did(x, "build 0 0 1");
        offsetsAre(x, 0, "0 0");
        is(x, "level 0 0", 6);
        offsetsAre(x, 0, "3 -3");
        did(x, "raise 1 1");
        is(x, "level 0 0", CANNOT);
        offsetsAre(x, 0, "3 -3");
        did(x, "build 0 1 0");
        offsetsAre(x, 0, "0 0");
        comeToTwice();
    }

    /** The offset is that of a place in the road: one that is come to twice has one for each time. */
    private static void comeToTwice() {
        GentleRoad x = twice();
        did(x, "build 0 4 13");
        placesAre(x, 0, "4 3 2 1 0 1 7 13");
        offsetsAre(x, 0, "0 0 0 0 0 0 0 0");
        // earth costs nothing, but must balance: the first four down, the last four up, 1 among both
        did(x, "tune 8 0", "tune 9 0", "tune 10 0");
        is(x, "level 0 99", 0);
        offsetsAre(x, 0, "-1 -1 -1 -1 1 1 1 1");
        is(x, "road 0 9", 0);
        // up to 2, which is 2 high, one needs banks at 3 and 1; when one comes to 1 again, none
        did(x, "raise 2 1", "tune 8 9", "tune 9 1", "tune 10 2");
        are(x, "2 2", "earth 0 10", "level 0 10");
        offsetsAre(x, 0, "0 1 0 1 0 0 0 0");
        are(x, "2 2 0 2 0 10", "road 0 8", "road 0 9", "road 0 7", "road 0 11", "road 0 12", "road 0 10");
        // two banks are too much now: a cutting at 2 it is
        did(x, "tune 10 1");
        is(x, "level 0 10", 9);
        offsetsAre(x, 0, "0 0 -1 0 0 0 0 0");
    }

    private static void form() {
        says("THE LAND is told by a text: land N N { ; row N { N } } { ; wet N } { ; TERM N }: WIDE, DEEP");
        GentleRoad x = right("land 3 2;row 1 2 3;row 4 5 6;wet 1;wet 5;grade 7;spoil 8", 6);
        are(x, "3 2 2 7 8", "count 0", "count 1", "count 2", "term 0", "term 10");
        wrong("^");
        wrong("^row 1 2;row 3 4");
        wrong("^;land 2 2;row 1 2;row 3 4");
        wrong("^2 2;row 1 2;row 3 4");
        wrong("land^;row 1 2;row 3 4");
        wrong("land 2^;row 1 2;row 3 4");
        wrong("land 2 2 ^2;row 1 2;row 3 4");
        wrong("land 2 2 ^row 1 2;row 3 4");
        wrong("land 2 2;^1 2;row 3 4");
        wrong("land 2 2;^;row 1 2;row 3 4");
        wrong(FOUR + " ^wet 1");
        wrong(FOUR + ";wet ^wet");
        wrong(FOUR + ";^1");
        wrong(FOUR + ";^;wet 1");
        wrong(FOUR + ";wet 1 ^2");
        wrong(FOUR + ";rise 1 ^rise");
        wrong(FOUR + ";^land 2 2;row 1 2;row 3 4");
        says("just DEEP rows");
        wrong("land 2 3;row 1 2;row 3 4^");
        right("land 2 3;row 1 2;row 3 4;row 5 6", 6);
        wrong("land 2 3;row 1 2;row 3 4;row 5 6;^row 7 8");
        wrong("land 2 3;row 1 2;row 3 4;^wet 1");
        says("of just WIDE HEIGHTS");
        wrong("land 3 2;row 1 2^;row 4 5 6");
        wrong("land 3 2;row 1 2 3;row 4 5^");
        wrong("land 3 2;row 1 2 3;row 4 5^;wet 1");
        right("land 3 2;row 1 2 3;row 4 5 6", 6);
        wrong("land 3 2;row 1 2 3 ^4;row 4 5 6");
        wrong("land 3 2;row 1 2 3;row 4 5 6 ^7");
        wrong("land 3 2;row^;row 4 5 6");
    }

    private static void clauses() {
        says("then wet (a PLACE that is not WET yet) and TERMS, in any order");
        GentleRoad x = right(FOUR + ";spoil 6;wet 3;grade 7;wet 0;dig 8;bend 2", 4);
        are(x, "6 7 8 2 1 0 0 1", "term 10", "term 0", "term 8", "term 1", "place 0 1", "place 1 1", "place 2 1",
                "place 3 1");
        right(FOUR + ";wet 3;wet 2;wet 1;wet 0", 4);
        wrong(FOUR + ";wet 3;wet ^3");
        wrong(FOUR + ";wet 3;dig 1;wet 0;wet ^3");
        wrong(FOUR + ";wet ^4");
        wrong("land 2 2;^wet 0;row 1 2;row 3 4");
        wrong("land 2 2;row 1 2;^wet 0;row 3 4");
        wrong("land 2 2;^grade 1;row 1 2;row 3 4");
        right(level(9, 9, 0, ";wet 80"), 81);
        wrong(level(9, 9, 0, ";wet ^81"));
        says("at most 14 of both together");
        String wets = ";wet 0;wet 1;wet 2;wet 3;wet 4;wet 5;wet 6;wet 7;wet 8;wet 9;wet 10;wet 11;wet 12;wet 13";
        is(right(level(4, 4, 0, wets), 16), "count 2", 14);
        wrong(level(4, 4, 0, wets + ";^wet 14"));
        wrong(level(4, 4, 0, wets + ";^dig 1"));
        GentleRoad y = right(FOUR + ELEVEN + ";wet 0;wet 1;wet 2", 4);
        are(y, "3 1 0", "count 2", "term 0", "term 10");
        wrong(FOUR + ELEVEN + ";wet 0;wet 1;wet 2;^wet 3");
        wrong(FOUR + ";wet 0;wet 1;wet 2;wet 3" + ELEVEN.replace(";spoil", ";^spoil"));
    }

    private static void termsNoneTwice() {
        says("TERM: grade, bend, flat, rise, turn, hair, bore, depth, dig, fill, spoil, none twice");
        for (int what = 0; what < 11; what++) {
            is(right(FOUR + ";" + WORDS[what] + " 3", 4), "term " + what, 3);
            wrong(FOUR + ";" + WORDS[what] + " 3;^" + WORDS[what] + " 3");
            wrong(FOUR + ";" + WORDS[what] + " 3;wet 1;^" + WORDS[what] + " 2");
            wrong(FOUR + ";^" + WORDS[what] + "s 3");
            wrong(FOUR + ";^" + WORDS[what].substring(1) + " 3");
            wrong(FOUR + ";^" + WORDS[what].substring(0, 2) + " 3");
        }
        is(right(FOUR + ELEVEN, 4), "term 0", 1);
        // what an earlier text told is not told already in the next one
        GentleRoad x = right(FOUR + ELEVEN, 4);
        tell(x, FOUR + ELEVEN + ";wet 3");
        is(x, "land", 4);
    }

    private static void takesThePlace() {
        says("It takes the place of the one before: what is not told is as at first, no ROAD is BUILT.");
        GentleRoad x = land("land 3 3;row 5 5 5;row 5 5 5;row 5 5 5;wet 0;wet 3" + ELEVEN.replace("depth 0", "depth 3"));
        did(x, "build 0 1 2", "build 3 6 8", "tune 5 77");
        tell(x, "land 2 4;row 1 2;row 3 4;row 5 6;row 7 8;wet 5");
        is(x, "land", 8);
        are(x, "2 4 1 0 0", "count 0", "count 1", "count 2", "count 3", "count 4");
        int[] first = {20, 1, 2, 2, 1, 20, 50, 1, 1, 1, 5};
        for (int what = 0; what < 11; what++) {
            is(x, "term " + what, first[what]);
        }
        for (int place = 0; place < 8; place++) {
            are(x, (place + 1) + " " + (place == 5 ? 1 : 0), "place " + place + " 0", "place " + place + " 1");
        }
        is(x, "place 8 0", NO_PLACE);
        is(x, "at 0 0 false", CANNOT);
        is(x, "undo", CANNOT);
        // of a greater one nothing is beside the places of a lesser one: corners and edges are where they are now
        GentleRoad less = flat(9, 9, "");
        tell(less, "land 2 2;row 0 0;row 0 0");
        is(less, "land", 4);
        are(less, "28 112 7 193 3", "place 0 3", "place 1 3", "place 2 3", "place 3 3", "reach 0");
        tell(less, "land 3 3;row 9 9 9;row 9 0 9;row 9 9 9");
        is(less, "land", 9);
        are(less, "9 9 1 1", "water 4 2", "water 8 2", "count 5", "water 8 1");
        // terms told by tune ahead of the first text go, too
        GentleRoad y = new GentleRoad();
        did(y, "tune 0 99");
        tell(y, FOUR);
        did(y, "land");
        are(y, "20 0", "term 0", "count 4");
    }

    private static void numbers() {
        says("Numbers are of 1 to 2 digits");
        are(right("land 02 2;row 0 7;row 07 77", 4), "0 7 7 77", "place 0 0", "place 1 0", "place 2 0", "place 3 0");
        is(right("land 2 02;row 00 00;row 00 00;grade 01;wet 03", 4), "term 0", 1);
        wrong("land ^002 2;row 0 0;row 0 0");
        wrong("land 2 ^002;row 0 0;row 0 0");
        wrong("land 2 2;row ^000 0;row 0 0");
        wrong(FOUR + ";wet ^001");
        wrong(FOUR + ";grade ^001");
        wrong(FOUR + ";grade^");
        wrong(FOUR + ";grade ^;bend 1");
        // digits that go on are one number
        wrong("land ^22;row 0 0;row 0 0");
        wrong("land 2 2;row 12^;row 3 4");
        wrong("land 2 2;row ^1234;row 3 4");
        wrong("land 2 2;row 1 ^+2;row 3 4");
        wrong("land 2 2;row 1 2^.0;row 3 4");
    }

    private static void words() {
        says("words as long as a to z go on");
        right("land2 2;row1 2;row3 4;wet0;dig9", 4);
        wrong("^lan 2 2;row 1 2;row 3 4");
        wrong("^landx 2 2;row 1 2;row 3 4");
        wrong("^landz 2 2;row 1 2;row 3 4");
        wrong("^landa 2 2;row 1 2;row 3 4");
        wrong("land 2 2;^rowz 1 2;row 3 4");
        wrong(FOUR + ";^wetz 1");
        wrong(FOUR + ";^wetza 1");
        wrong("^landrow 2 2");
        wrong("^Land 2 2;row 1 2;row 3 4");
        wrong("^la nd 2 2;row 1 2;row 3 4");
        wrong("land^X 2 2;row 1 2;row 3 4");
        wrong("land^_2 2;row 1 2;row 3 4");
        wrong("land 2 2;^rows 1 2;row 3 4");
        wrong("land 2 2;^rowrow 1 2");
        wrong("land 2 2;row^` 1 2;row 3 4");
        wrong("land 2 2;row^{ 1 2;row 3 4");
        wrong(FOUR + ";^wetdig 1");
        wrong(FOUR + ";^wets 1");
        wrong(FOUR + ";^we 1");
        wrong(FOUR + ";wet 1^x");
        wrong(FOUR + ";^WET 1");
    }

    private static void blanks() {
        says("between all there may be blanks (32), also ahead and behind");
        right("  land  2  2  ;  row  1  2  ;  row  3  4  ;  wet  1  ;  dig  2  ", 4);
        right("land2 2;row1 2;row3 4;wet1;dig2", 4);
        String full = FOUR + " ".repeat(400 - FOUR.length());
        GentleRoad x = right(full, 4);
        is(x, "end 1", false);
        right(" ".repeat(400 - FOUR.length()) + FOUR, 4);
        for (int other : new int[] {0, 9, 10, 13, 31, 33, 127, 160, 255}) {
            wrong("^" + (char) other + FOUR);
            wrong("land^" + (char) other + "2 2;row 1 2;row 3 4");
            wrong("land 2^" + (char) other + "2;row 1 2;row 3 4");
            wrong("land 2 2;^" + (char) other + "row 1 2;row 3 4");
            wrong(FOUR + "^" + (char) other);
        }
    }

    private static void firstWrong() {
        says("The first wrong byte: the begin of the first thing that cannot stand there");
        wrong("land ^1 1;rows 1;wet");
        wrong("land 2 ^10;rows 1;wet");
        wrong("land 2 2;^rows 100;wet");
        wrong("   land 2 2   ;   ^rows 1 2");
        wrong(FOUR + ";wet ^4;wet 4;dig 99");
        wrong(FOUR + "^,wet 4");
        says("a number of more digits, or out of its bounds");
        wrong("land 2 2;row 1 ^002;row 3 4");
        wrong("land 2 2;row 1 ^9999999999999999999999;row 3 4");
        wrong("land   ^1 2");
        wrong("land   ^10 2");
        wrong("land 2   ^1");
        wrong("land 2   ^10");
        wrong(FOUR + ";grade   ^0");
        wrong(FOUR + ";bend   ^05");
        wrong(FOUR + ";wet   ^04");
        says("a PLACE that is WET");
        wrong(FOUR + ";wet 2;wet   ^2");
        wrong(FOUR + ";wet 2;wet   ^02");
        wrong(FOUR + ";wet 0;wet   ^0");
        says("a word that is none, or told already");
        wrong(FOUR + ";  ^water 2");
        wrong(FOUR + ";  ^row 1 2");
        wrong(FOUR + ";dig 2;   ^dig 2");
        wrong(FOUR + ";dig 2;   ^dig");
        wrong(FOUR + ";dig 2;   ^dig 10");
        says("of these 14 a 15th, the first word");
        String all = FOUR + ELEVEN + ";wet 0;wet 1;wet 2";
        wrong(all + " ;  ^wet 3");
        wrong(all + ";^wet 0");
        wrong(all + ";^wet");
        wrong(all + ";^dig 1");
        wrong(all + ";^x");
        wrong(all + ";^7");
        wrong(all + " ^wet 3");
        wrong(all + ";wet 3;wet 4".replace("wet 3", "^wet 3"));
        right(all + "  ", 4);
    }

    private static void moreMustCome() {
        says("or the text's length, if more must come (rows that are not told yet must come).");
        String all = "land 2 2;row 1 2;row 3 4;wet 1;dig 2";
        String[] cut = {"", "land", "land 2", "land 2 2", "land 2 2;", "land 2 2;row", "land 2 2;row 1",
            "land 2 2;row 1 2", "land 2 2;row 1 2;", "land 2 2;row 1 2;row", "land 2 2;row 1 2;row 3", FOUR + ";",
            FOUR + ";wet", FOUR + ";wet 1;", FOUR + ";wet 1;dig"};
        for (String begin : cut) {
            same(begin + " is a begin of it", all.startsWith(begin), true);
            wrong(begin + "^");
            wrong(begin + "   ^");
        }
        wrong(FOUR + ELEVEN + ";wet 0;wet 1;wet 2;^");
        wrong(FOUR + ELEVEN + ";wet 0;wet 1;wet 2;  ^");
        String far = "land 2 2;row 1 2" + " ".repeat(400 - 16);
        wrong(far + "^");
        wrong(level(9, 9, 10, "").substring(0, 256) + "^");
        right(FOUR, 4);
        right(FOUR + "   ", 4);
    }

    private static void nothingStays() {
        says("Of a wrong text nothing stays.");
        GentleRoad x = land("land 3 2;row 9 9 9;row 9 9 9;wet 5;hair 9");
        did(x, "build 1 0 2", "tune 3 0");
        tell(x, "land 2 4;row 1 2;row 3 4;row 5 6;row 7 8;wet 0;wet 1;hair 1;spoil 31");
        is(x, "land", WRONG);
        are(x, "3 2 1 2 2 9 0 5", "count 0", "count 1", "count 2", "count 3", "count 4", "term 5", "term 3", "term 10");
        are(x, "9 0 1", "place 0 0", "place 0 1", "place 5 1");
        is(x, "place 6 0", NO_PLACE);
        placesAre(x, 1, "0 1 2");
        is(x, "undo", 1);
        is(x, "term 3", 2);
        // nor does it stay for the next text
        tell(x, FOUR + ";hair 2");
        is(x, "land", 4);
        are(x, "0 2 5", "count 2", "term 5", "term 10");
        GentleRoad y = new GentleRoad();
        tell(y, FOUR + ";wet 0;spoil 31");
        is(y, "land", WRONG);
        are(y, "0 0 0 0 0 0 5", "count 0", "count 1", "count 2", "count 3", "count 4", "count 5", "term 10");
        is(y, "place 0 0", NO_PLACE);
    }
}

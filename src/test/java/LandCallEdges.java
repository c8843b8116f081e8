/** Promises 1 to 10, 14 and 32 to 34, each sentence by itself. */
final class LandCallEdges extends Refused {
    private LandCallEdges() {
    }

    static void run() {
        newObject();
        feed();
        end();
        land();
        fault();
        place();
        term();
        tune();
        raise();
        flood();
        undo();
        image();
        back();
        count();
    }

    private static void newObject() {
        under("Promise 1");
        says("No LAND.");
        GentleRoad x = new GentleRoad();
        are(x, "0 0 0 0 0 0", "count 0", "count 1", "count 2", "count 3", "count 4", "count 5");
        String[] calls = {"place 0 0", "raise 0 0", "flood 0 true", "build 0 0 1", "best 0 1 0", "along 0 1 0 0", "reach 0",
            "grade 0 1", "gate 0 1", "bored 0 1 0", "meet 0 1 2 0", "water 0 0", "joins 0 0 0", "spare 0 1 0"};
        for (String call : calls) {
            is(x, call, NO_PLACE);
        }
        String[] ofRoads = {"drop 0", "level 0 0", "road 0 0", "at 0 0 false", "earth 0 0", "bridges 0 1", "stages 0 1",
            "common 0 1", "undo"};
        for (String call : ofRoads) {
            is(x, call, CANNOT);
        }
        are(x, WRONG + " " + WRONG, "round", "land");
        are(new GentleRoad(), "-1 true false false", "fault", "end 0", "end 1", "back");
        // terms can be told, taken back, kept without a land
        are(x, "20 99 1 0 20", "tune 0 99", "term 0", "count 4", "undo", "term 0");
    }

    private static void feed() {
        under("Promise 2");
        says("Twenty bytes come behind the TAPE, of each number the highest first: how many it has");
        GentleRoad x = new GentleRoad();
        // "land 2 2;row 1 2;row", " 3 4" and a byte of each number
        are(x, "20 40 true 4", "feed 1818324580 540155954 997355383 540090418 997355383", "feed 540221492 0 0 0 0", "end 24",
                "land");
        are(x, "1 2 3 4", "place 0 0", "place 1 0", "place 2 0", "place 3 0");
        GentleRoad y = flat(9, 9, "");
        // 0x00010203, 0x04050000: places 0 to 5, one beside another
        are(y, "20 true 100", "feed 66051 67436544 0 0 0", "end 6", "round");
        // 0x0001FFFF: the third byte is 255, no place
        are(y, "20 true " + WRONG, "feed 131071 -1 -1 -1 -1", "end 3", "round");
        are(y, "20 true 20", "feed 131071 -1 -1 -1 -1", "end 2", "round");
        // places 0 and 80 from the last byte of e: 0x00000000, ... 0x00000050
        are(y, "20 true 20 ", "feed 0 0 0 0 80", "end 0", "feed 0 0 0 0 80");
        // behind what there is: byte 0 of the first, then 0x01000000
        are(y, "true 21 true 20", "end 1", "feed 16777216 0 0 0 0", "end 2", "round");
        says("NONE, and none come, if it would have more than 400.");
        GentleRoad z = new GentleRoad();
        for (int k = 1; k <= 20; k++) {
            is(z, "feed 1 2 3 4 5", 20 * k);
        }
        are(z, "-1 false true -1", "feed 1 2 3 4 5", "end 401", "end 400", "feed 0 0 0 0 0");
        for (int size = 399; size >= 381; size--) {
            are(z, "true -1 false", "end " + size, "feed 0 0 0 0 0", "end " + (size + 1));
        }
        are(z, "true 400 true 399 -1", "end 380", "feed 0 0 0 0 0", "end 379", "feed 0 0 0 0 0", "feed 0 0 0 0 0");
        // what came ahead of the refused one is as it was
        GentleRoad full = new GentleRoad();
        tell(full, FOUR + " ".repeat(400 - FOUR.length()));
        are(full, "-1 4", "feed -1 -1 -1 -1 -1", "land");
    }

    private static void end() {
        under("Promise 3");
        says("The TAPE has its first n bytes alone: true");
        GentleRoad x = new GentleRoad();
        are(x, "true 20 true true 39 true 33 true 20", "end 0", "feed 1 2 3 4 5", "end 20", "end 19", "feed 1 2 3 4 5", "end 13",
                "feed 1 2 3 4 5", "end 0", "feed 1 2 3 4 5");
        GentleRoad y = new GentleRoad();
        tell(y, FOUR + ";wet 9");
        // the first ones: what is cut off is wrong, what stays is not
        are(y, "true 4", "end 24", "land");
        // a number, a word, a mark, a blank that went on is cut short
        String[] whole = {FOUR + "5", FOUR + "56", FOUR + ";", FOUR + "x", FOUR + " 5"};
        for (String text : whole) {
            tell(y, text);
            are(y, "true 4 -1 4", "end 24", "land", "fault", "place 3 0");
        }
        tell(y, "lands");
        are(y, "true " + WRONG + " 4", "end 4", "land", "fault");
        tell(y, "land 2 20");
        are(y, "true " + WRONG + " 8", "end 8", "land", "fault");
        tell(y, "land 2 2   ;row");
        are(y, "true " + WRONG + " 10", "end 10", "land", "fault");
        tell(y, FOUR + ";wets 1");
        are(y, "true " + WRONG + " 28", "end 28", "land", "fault");
        GentleRoad z = flat(3, 3, "");
        tellPlaces(z, 0, 1, 1);
        are(z, "true 20", "end 2", "round");
        says("false, and nothing happens, if it has fewer, or n is below 0.");
        tell(y, FOUR);
        are(y, "false false false false false", "end 25", "end 400", "end 401", "end " + MOST, "end " + (1 << 16));
        are(y, "false false", "end -1", "end " + LEAST);
        are(y, "true 4", "end 24", "land");
        is(new GentleRoad(), "end 1", false);
        is(new GentleRoad(), "end -1", false);
    }

    private static void land() {
        under("Promise 4");
        says("Uses the TAPE up: THE LAND is told: how many PLACES.");
        GentleRoad x = new GentleRoad();
        for (int wide = 2; wide <= 9; wide++) {
            tell(x, level(wide, 11 - wide, 0, ""));
            is(x, "land", wide * (11 - wide));
            are(x, wide + " " + (11 - wide) + " false", "count 0", "count 1", "end 1");
        }
        is(x, "land", WRONG);
        is(x, "fault", 0);
        is(x, "count 0", 9);
        says("IllegalArgumentException: the text is wrong.");
        GentleRoad y = rich();
        // the tape has the bytes 0 1 4
        is(y, "land", WRONG);
        are(y, "0 false 3 2 1 3 4 33", "fault", "end 1", "count 0", "count 1", "count 2", "count 3", "count 4", "term 5");
        placesAre(y, 0, "0 1 2");
        offsetsAre(y, 0, "0 0 -1");
        tell(y, "land 2 2;row 1 2;row 3 4;wet 3;wet 3");
        are(y, WRONG + " 35 false 3 4", "land", "fault", "end 1", "count 0", "count 4");
        are(y, "3 true 20", "undo", "back", "term 5");
    }

    private static void fault() {
        under("Promise 5");
        says("The first wrong byte of the latest text that was read");
        GentleRoad x = new GentleRoad();
        String[] texts = {"land 1", "land 2 1", "x", " x", FOUR + ";wet 4", ""};
        int[] wrong = {5, 7, 0, 1, 29, 0};
        for (int k = 0; k < texts.length; k++) {
            tell(x, texts[k]);
            are(x, WRONG + " " + wrong[k] + " " + wrong[k], "land", "fault", "fault");
        }
        tell(x, FOUR + " ".repeat(370) + "land");
        are(x, WRONG + " 394", "land", "fault");
        tell(x, "land 2 2;row 1 2;row" + " ".repeat(380));
        are(x, WRONG + " 400", "land", "fault");
        says("NONE without one, and ahead of any.");
        is(new GentleRoad(), "fault", NONE);
        tell(x, FOUR);
        is(x, "fault", 400);
        are(x, "4 -1", "land", "fault");
        // other calls read no text
        GentleRoad y = flat(2, 2, "");
        tell(y, "land 1");
        are(y, WRONG + " 5", "land", "fault");
        tellPlaces(y, 7, 8);
        are(y, WRONG + " 5", "round", "fault");
        tellPlaces(y, 0, 1);
        are(y, "20 5", "round", "fault");
        did(y, "image", "tune 5 5", "undo", "back");
        is(y, "fault", 5);
        tell(y, "no text");
        is(y, "fault", 5);
    }

    private static void place() {
        under("Promise 6");
        says("Of a PLACE what 0 HEIGHT, 1 1 if WET, 2 1 if a HAIRPIN can be there, 3 HEADINGS by which STEPS can be from it, as bits.");
        GentleRoad x = land("land 3 2;row 0 99 3;row 0 2 99;wet 5");
        are(x, "0 99 3 0 2 99", "place 0 0", "place 1 0", "place 2 0", "place 3 0", "place 4 0", "place 5 0");
        are(x, "0 0 0 0 0 1", "place 0 1", "place 1 1", "place 2 1", "place 3 1", "place 4 1", "place 5 1");
        are(x, "0 0 0", "place 0 2", "place 2 2", "place 3 2");
        did(x, "raise 1 -97", "raise 5 -97");
        are(x, "1 1 1 1 1 1", "place 0 2", "place 1 2", "place 2 2", "place 3 2", "place 4 2", "place 5 2");
        are(x, "28 116 96 7 195 0", "place 0 3", "place 1 3", "place 2 3", "place 3 3", "place 4 3", "place 5 3");
        says("NoSuchElementException: another what.");
        beyond(NO_SUCH, 0, 3, "place 0 N", "place 5 N");
        noPlace("place P 0", "place P 3", "place P 4", "place P -1");
    }

    private static void term() {
        under("Promise 7");
        says("What 0 GRADE, 1 BEND, 2 FLAT, 3 RISE, 4 TURN, 5 HAIR, 6 BORE, 7 DEPTH, 8 DIG, 9 FILL, 10 SPOIL.");
        GentleRoad x = land(FOUR + ";grade 91;bend 2;flat 93;rise 4;turn 5;hair 96;bore 97;depth 3;dig 7;fill 8;spoil 29");
        are(x, "91 2 93 4 5 96 97 3 7 8 29", "term 0", "term 1", "term 2", "term 3", "term 4", "term 5", "term 6", "term 7",
                "term 8", "term 9", "term 10");
        says("NoSuchElementException: another what.");
        beyond(NO_SUCH, 0, 10, "term N");
        is(new GentleRoad(), "term 11", NO_SUCH);
    }

    private static void tune() {
        under("Promise 8");
        says("A TERM is told: what it was.");
        int[] least = {1, 0, 0, 0, 0, 0, 0, 0, 0, 0, 0};
        int[] most = {99, 4, 99, 9, 9, 99, 99, 3, 9, 9, 30};
        int[] first = {20, 1, 2, 2, 1, 20, 50, 1, 1, 1, 5};
        GentleRoad x = flat(2, 2, "");
        for (int what = 0; what < 11; what++) {
            are(x, first[what] + " " + least[what] + " " + least[what] + " " + most[what] + " " + most[what],
                    "tune " + what + " " + least[what], "term " + what, "tune " + what + " " + most[what], "term " + what,
                    "tune " + what + " " + most[what]);
        }
        for (int what = 0; what < 11; what++) {
            is(x, "term " + what, most[what]);
        }
        // it counts from then on: 100 is above 9 times 10, not above 10 times 10
        GentleRoad y = land("land 2 2;row 0 1;row 90 90");
        are(y, "20 -1 9 1", "tune 0 9", "best 0 1 3", "tune 0 10", "best 0 1 3");
        says("NoSuchElementException: another what; IllegalArgumentException: n is none.");
        beyond(NO_SUCH, 0, 10, "tune N 1", "tune N -1", "tune N 100");
        for (int what = 0; what < 11; what++) {
            beyond(WRONG, least[what], most[what], "tune " + what + " N");
        }
    }

    private static void raise() {
        under("Promise 9");
        says("RAISE: HEIGHT then.");
        GentleRoad x = land("land 2 2;row 0 99;row 50 1");
        are(x, "99 0 0 50 1", "raise 0 99", "raise 1 -99", "raise 0 -99", "raise 2 0", "raise 3 0");
        are(x, "0 0 50 1 5", "place 0 0", "place 1 0", "place 2 0", "place 3 0", "count 4");
        says("IllegalArgumentException: n is none, or HEIGHT would be.");
        // of rich: 0 is 0 high, 5 is 99
        beyond(WRONG, -99, 99, "raise 0 N", "raise 1 N", "raise 5 N");
        refused(WRONG, "raise 0 -1", "raise 5 1", "raise 1 -2", "raise 1 99", "raise 2 97", "raise 2 -4", "raise 5 99",
                "raise 0 -99");
        are(rich(), "99 0 96 99", "raise 0 99", "raise 1 -1", "raise 2 93", "raise 5 0");
        noPlace("raise P 0", "raise P 100", "raise P -100");
    }

    private static void flood() {
        under("Promise 10");
        says("FLOOD: whether that changed.");
        GentleRoad x = flat(2, 2, ";wet 1");
        are(x, "false true true false false true", "flood 1 true", "flood 1 false", "flood 1 true", "flood 1 true",
                "flood 0 false", "flood 0 true");
        are(x, "6 2 1 1 0 0", "count 4", "count 2", "place 0 1", "place 1 1", "place 2 1", "place 3 1");
        noPlace("flood P true", "flood P false");
    }

    private static void undo() {
        under("Promise 14");
        says("TAKEN BACK: how many ACTS are remembered then.");
        GentleRoad x = flat(2, 2, "");
        for (int k = 1; k <= 8; k++) {
            did(x, "tune 5 " + k);
        }
        for (int k = 7; k >= 0; k--) {
            are(x, k + " " + k, "undo", "count 4");
        }
        says("IllegalStateException: there is none.");
        are(x, CANNOT + " 0 20 " + CANNOT, "undo", "count 4", "term 5", "undo");
        is(new GentleRoad(), "undo", CANNOT);
        did(x, "tune 5 9");
        are(x, "0 " + CANNOT, "undo", "undo");
        // the ninth takes the first one's room, and no more
        for (int k = 1; k <= 9; k++) {
            did(x, "raise 0 1");
        }
        for (int k = 7; k >= 0; k--) {
            is(x, "undo", k);
        }
        are(x, CANNOT + " 1", "undo", "place 0 0");
    }

    private static void image() {
        under("Promise 32");
        says("THE IMAGE is kept.");
        GentleRoad x = flat(2, 2, "");
        did(x, "tune 5 1", "build 0 0 1");
        is(x, "image", "null");
        // keeping it changes nothing, is no act, and forgets none
        are(x, "2 1 1 1 1", "count 4", "count 3", "term 5", "undo", "term 5");
        are(x, "0 20 true 1 1 0", "undo", "term 5", "back", "term 5", "count 3", "count 4");
        // the image is not the land: what is changed later does not change it
        did(x, "raise 0 9", "flood 1 true", "tune 5 2", "build 0 2 3", "build 1 2 3", "back");
        are(x, "0 0 1 1", "place 0 0", "place 1 1", "term 5", "count 3");
        placesAre(x, 0, "0 1");
        // nor does going back, and changing then
        did(x, "raise 0 9", "drop 0", "back");
        are(x, "0 1", "place 0 0", "count 3");
    }

    private static void back() {
        under("Promise 33");
        says("One goes back to THE IMAGE: true");
        GentleRoad x = rich();
        are(x, "true 0 20 0 true", "back", "count 3", "term 5", "count 4", "back");
        is(x, "fault", 7);
        are(x, "false true", "end 4", "end 3");
        says("false, and nothing happens, if none was kept.");
        GentleRoad y = land("land 3 2;row 0 1 0;row 90 90 90;wet 5");
        did(y, "build 0 0 2", "level 0 0", "tune 5 7", "feed 1 2 3 4 5");
        are(y, "false 1 7 3 1 true", "back", "count 3", "term 5", "count 4", "place 5 1", "end 20");
        offsetsAre(y, 0, "0 -1 0");
        are(y, "2 20", "undo", "term 5");
        is(new GentleRoad(), "back", false);
        // a text and what is taken back keep no image
        did(y, "undo", "undo");
        is(y, "back", false);
    }

    private static void count() {
        under("Promise 34");
        says("0 WIDE, 1 DEEP, 2 PLACES that are WET, 3 ROADS that are BUILT, as bits, 4 ACTS that are remembered, 5 SINKS.");
        GentleRoad x = land("land 3 2;row 0 1 0;row 0 1 0;wet 4");
        are(x, "3 2 1 0 0 4", "count 0", "count 1", "count 2", "count 3", "count 4", "count 5");
        int bits = 0;
        for (int road = 3; road >= 0; road--) {
            bits += 1 << road;
            did(x, "build " + road + " 0 1");
            are(x, bits + " " + (4 - road), "count 3", "count 4");
        }
        did(x, "drop 1", "flood 0 true", "raise 0 1");
        are(x, "3 2 2 13 7 3", "count 0", "count 1", "count 2", "count 3", "count 4", "count 5");
        did(x, "flood 0 false", "flood 4 false", "flood 4 false");
        are(x, "0 8", "count 2", "count 4");
        // on the greatest land, with roads of many places
        GentleRoad most = land(level(9, 9, 7, ";wet 80"));
        did(most, "build 0 0 8", "build 3 72 79");
        are(most, "9 9 1 9 2 81", "count 0", "count 1", "count 2", "count 3", "count 4", "count 5");
        says("NONE for another what.");
        for (int what : new int[] {-1, 6, LEAST, MOST}) {
            is(x, "count " + what, NONE);
            is(new GentleRoad(), "count " + what, NONE);
        }
    }
}

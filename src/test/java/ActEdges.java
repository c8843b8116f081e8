/** The document's Terms, second part: roads that are built, levelled and broken, land that is changed, acts taken back. */
final class ActEdges extends Edges {
    private ActEdges() {
    }

    static void run() {
        under("Terms");
        build();
        buildThatCannotBe();
        drop();
        brokenSteps();
        brokenBends();
        levels();
        gradingDepth();
        gradingRule();
        gradingSpoil();
        gradingEarth();
        gradingFirst();
        gradingThatCannotBe();
        raise();
        flood();
        takenBack();
        takenBackLeaves();
        eightAreRemembered();
        noneAreRemembered();
    }

    private static void build() {
        says("BUILD of a ROAD from a PLACE to another one: BEST by COST is the ROAD (in place of what it was), all OFFSETS 0.");
        GentleRoad x = flat(3, 3, ";depth 2");
        is(x, "build 2 0 5", 25);
        placesAre(x, 2, "0 1 5");
        offsetsAre(x, 2, "0 0 0");
        did(x, "raise 1 2");
        is(x, "level 2 0", 2);
        offsetsAre(x, 2, "0 -2 0");
        // the same way once more: its offsets are 0 again
        did(x, "raise 1 -2");
        is(x, "build 2 0 5", 25);
        offsetsAre(x, 2, "0 0 0");
        is(x, "build 2 5 0", 25);
        placesAre(x, 2, "5 1 0");
        is(x, "build 2 6 7", 10);
        placesAre(x, 2, "6 7");
        offsetsAre(x, 2, "0 0");
        is(x, "count 3", 4);
        // by cost, not by what is used: 20 straight on, though a road lies beside
        GentleRoad y = flat(9, 2, "");
        did(y, "build 0 0 8", "build 1 9 17");
        placesAre(y, 1, "9 10 11 12 13 14 15 16 17");
        // other roads stay
        placesAre(y, 0, "0 1 2 3 4 5 6 7 8");
    }

    private static void buildThatCannotBe() {
        says("It cannot be, if there is no WAY, or BEST has more than 40 PLACES.");
        GentleRoad x = flat(3, 2, ";wet 1;wet 4");
        did(x, "build 1 0 3");
        is(x, "build 1 0 2", CANNOT);
        is(x, "build 0 0 2", CANNOT);
        is(x, "build 0 0 1", CANNOT);
        is(x, "build 0 1 0", CANNOT);
        placesAre(x, 1, "0 3");
        are(x, "2 1", "count 3", "count 4");
        GentleRoad y = serpentine("");
        did(y, "build 0 1 80");
        is(y, "road 0 0", 40);
        is(y, "best 0 80 3", 40);
        is(y, "build 0 0 80", CANNOT);
        is(y, "build 0 80 0", CANNOT);
        placesAre(y, 0, "1 2 3 4 5 6 7 17 25 24 23 22 21 20 19 27 37 38 39 40 41 42 43 53 61 60 59 58 57 56 55 63 73 74 "
                + "75 76 77 78 79 80");
        is(y, "best 0 80 0", 8 * 14 + 32 * 10);
        is(y, "along 0 80 0 40", 80);
        is(y, "along 0 80 0 41", NONE);
    }

    private static void drop() {
        says("DROP: a ROAD is BUILT no more.");
        GentleRoad x = flat(3, 2, "");
        did(x, "build 0 0 2", "build 3 3 5");
        is(x, "drop 3", 3);
        is(x, "count 3", 1);
        is(x, "road 3 0", CANNOT);
        is(x, "drop 3", CANNOT);
        is(x, "drop 0", 3);
        is(x, "count 3", 0);
        is(x, "build 3 3 4", 10);
        is(x, "drop 3", 2);
    }

    private static void brokenSteps() {
        says("A STEP of a ROAD is BROKEN, if it cannot be by now (WET, STEEP as the land lies)");
        GentleRoad x = flat(4, 2, "");
        did(x, "build 0 0 3");
        is(x, "road 0 5", NONE);
        did(x, "flood 3 true");
        is(x, "road 0 5", 2);
        did(x, "flood 2 true");
        is(x, "road 0 5", 1);
        did(x, "flood 0 true");
        is(x, "road 0 5", 0);
        did(x, "flood 0 false", "flood 2 false", "flood 3 false");
        is(x, "road 0 5", NONE);
        did(x, "raise 3 2");
        is(x, "road 0 5", NONE);
        did(x, "raise 3 1");
        is(x, "road 0 5", 2);
        did(x, "tune 0 30");
        is(x, "road 0 5", NONE);
        did(x, "tune 0 29");
        is(x, "road 0 5", 2);
        // the road is as it was, though the best way by now comes from across: 300 is below 29 times 14
        placesAre(x, 0, "0 1 2 3");
        wayIs(x, 0, 3, 0, "0 5 6 3");
        GentleRoad across = flat(2, 2, "");
        did(across, "build 1 0 3", "flood 2 true");
        is(across, "road 1 5", NONE);
        did(across, "flood 1 true");
        is(across, "road 1 5", 0);
        // steep by heights, not by levels
        GentleRoad hill = land("land 2 2;row 0 2;row 90 90");
        did(hill, "build 0 0 1", "level 0 10");
        offsetsAre(hill, 0, "0 -1");
        did(hill, "raise 1 1");
        is(hill, "road 0 5", 0);
    }

    private static void brokenBends() {
        says("a BEND of it, if it cannot be by now.");
        GentleRoad x = land("land 3 2;row 0 0 9;row 0 0 0;bend 0;flat 0");
        did(x, "build 0 0 5");
        placesAre(x, 0, "0 3 4 5");
        is(x, "road 0 6", NONE);
        did(x, "raise 1 1");
        are(x, "1 -1", "road 0 6", "road 0 5");
        did(x, "tune 2 1");
        is(x, "road 0 6", NONE);
        did(x, "tune 2 0", "tune 1 2");
        is(x, "road 0 6", NONE);
        did(x, "tune 1 1");
        is(x, "road 0 6", 1);
        // water breaks steps, not bends
        did(x, "raise 1 -1", "flood 3 true");
        are(x, "-1 0", "road 0 6", "road 0 5");
        // of several the first: bends of 1 at the first and the third place behind
        GentleRoad y = land("land 4 3;row 1 4 4 1;row 1 9 9 1;row 1 1 1 1;grade 30;rise 9;turn 2;bend 1;flat 0");
        did(y, "build 0 0 3");
        placesAre(y, 0, "0 4 9 10 7 3");
        is(y, "road 0 6", NONE);
        did(y, "tune 1 0");
        are(y, "1 4", "road 0 6", "road 0 4");
        did(y, "tune 2 99");
        are(y, "-1 4", "road 0 6", "road 0 4");
        // a road of one step has no bend
        GentleRoad one = flat(2, 2, ";bend 0;flat 0");
        did(one, "build 0 0 1", "raise 2 9");
        is(one, "road 0 6", NONE);
    }

    private static void levels() {
        says("LEVEL of a PLACE of a ROAD: HEIGHT and OFFSET.");
        GentleRoad x = land("land 2 2;row 0 6;row 90 90;grade 99;depth 3");
        did(x, "build 0 0 1");
        are(x, "6 0", "road 0 11", "road 0 12");
        did(x, "level 0 0");
        are(x, "3 3", "road 0 11", "road 0 12");
        did(x, "raise 0 99", "raise 1 -6");
        // 99 and 3, 0 and - 3
        are(x, "102 -3", "road 0 11", "road 0 12");
    }

    private static GentleRoad slope(int to, String more) {
        GentleRoad x = land("land 2 2;row 0 " + to + ";row 90 90;grade 99;rise 0;spoil 30" + more);
        did(x, "build 0 0 1");
        return x;
    }

    private static void gradingDepth() {
        says("GRADING of a ROAD by a RULE (0 to 99): OFFSETS from - DEPTH to DEPTH");
        for (int depth = 0; depth <= 3; depth++) {
            GentleRoad x = slope(2 * depth, ";depth " + depth);
            is(x, "level 0 0", 2 * depth);
            offsetsAre(x, 0, depth == 0 ? "0 0" : depth + " -" + depth);
            did(x, "raise 1 1");
            is(x, "earth 0 0", NONE);
            is(x, "earth 0 9", NONE);
            is(x, "earth 0 10", 2 * depth);
        }
        // each offset at the first place and at a later one: by what is cheap there alone
        for (int offset = -3; offset <= 3; offset++) {
            String cheap = offset < 0 ? ";dig 1;fill 9" : ";dig 9;fill 1";
            GentleRoad x = land("land 3 2;row 10 10 " + (10 - offset) + ";row 90 90 90;grade 99;rise 0;depth 3;spoil 3" + cheap);
            did(x, "build 0 0 2", "build 1 2 0");
            are(x, Math.abs(offset) + " " + Math.abs(offset), "level 0 0", "level 1 0");
            offsetsAre(x, 0, "0 0 " + offset);
            offsetsAre(x, 1, offset + " 0 0");
        }
        for (int rule : new int[] {-1, 100, LEAST, MOST}) {
            is(slope(1, ""), "earth 0 " + rule, WRONG);
            is(slope(1, ""), "level 0 " + rule, WRONG);
        }
        is(slope(0, ";depth 0"), "earth 0 0", 0);
        is(slope(9, ";depth 0"), "earth 0 99", 0);
        // DEPTH is that of now; offsets that were deeper stay until levelled anew
        GentleRoad x = slope(6, ";depth 3");
        did(x, "level 0 0", "tune 7 2");
        offsetsAre(x, 0, "3 -3");
        is(x, "level 0 0", CANNOT);
        is(x, "level 0 20", 4);
        offsetsAre(x, 0, "2 -2");
    }

    private static void gradingRule() {
        says("so that no STEP of it has 100 times what LEVELS differ by above RULE times LONG");
        for (int differ = 0; differ <= 9; differ++) {
            GentleRoad x = slope(differ, ";depth 0");
            is(x, "earth 0 " + 10 * differ, 0);
            if (differ > 0) {
                is(x, "earth 0 " + (10 * differ - 1), NONE);
            }
        }
        GentleRoad x = slope(9, ";depth 0");
        did(x, "raise 1 1");
        is(x, "earth 0 99", NONE);
        // across: 100 times so much is just not above so many times 14
        int[][] odd = {{0, 0}, {1, 8}, {2, 15}, {3, 22}, {7, 50}, {12, 86}, {13, 93}};
        for (int[] pair : odd) {
            GentleRoad y = land("land 2 2;row 0 90;row 90 " + pair[0] + ";grade 99;rise 0;depth 0");
            did(y, "build 0 0 3");
            is(y, "earth 0 " + pair[1], 0);
            if (pair[1] > 0) {
                is(y, "earth 0 " + (pair[1] - 1), NONE);
            }
        }
        // every step, down as well as up
        GentleRoad z = land("land 3 2;row 0 5 0;row 90 90 90;grade 50;rise 0;depth 0");
        did(z, "build 0 0 2");
        are(z, "-1 0", "earth 0 49", "earth 0 50");
        did(z, "raise 0 1");
        are(z, "-1 0", "earth 0 49", "earth 0 50");
        did(z, "raise 0 -1", "raise 2 1");
        are(z, "-1 0", "earth 0 49", "earth 0 50");
        // water and steepness do not matter for it
        did(z, "flood 1 true", "tune 0 1");
        are(z, "-1 0", "earth 0 49", "earth 0 50");
    }

    private static void gradingSpoil() {
        says("and all OFFSETS together are between - SPOIL and SPOIL");
        // both must come 2 nearer: 2 0 comes to 2, 1 -1 to 0, 0 -2 to -2
        GentleRoad bank = slope(2, ";depth 2;dig 9;fill 0");
        did(bank, "tune 10 2");
        is(bank, "level 0 0", 0);
        offsetsAre(bank, 0, "2 0");
        is(bank, "road 0 9", 2);
        did(bank, "tune 10 1");
        is(bank, "level 0 0", 9);
        offsetsAre(bank, 0, "1 -1");
        GentleRoad cut = slope(2, ";depth 2;dig 0;fill 9");
        did(cut, "tune 10 2");
        is(cut, "level 0 0", 0);
        offsetsAre(cut, 0, "0 -2");
        is(cut, "road 0 9", -2);
        did(cut, "tune 10 1");
        is(cut, "level 0 0", 9);
        offsetsAre(cut, 0, "1 -1");
        did(cut, "tune 10 0");
        is(cut, "level 0 0", 9);
        // an odd need cannot balance
        GentleRoad odd = slope(1, ";depth 3");
        did(odd, "tune 10 0");
        are(odd, "-1 0", "earth 0 9", "earth 0 10");
        did(odd, "tune 10 1");
        is(odd, "earth 0 9", 1);
        // 0 0 2 high by 10: 0 0 -1 does not balance, 0 1 -1 and 1 0 -1 do
        GentleRoad balance = land("land 3 2;row 0 0 2;row 90 90 90;spoil 0");
        did(balance, "build 0 0 2");
        are(balance, "2 0 0 -1", "level 0 10", "road 0 9", "earth 0 20", "earth 0 9");
        offsetsAre(balance, 0, "0 1 -1");
        is(balance, "level 0 20", 0);
        offsetsAre(balance, 0, "0 0 0");
        did(balance, "tune 10 1");
        is(balance, "level 0 10", 1);
        offsetsAre(balance, 0, "0 0 -1");
        // the greatest spoil and the longest road: 75 down, 45 up
        GentleRoad x = serpentine(";depth 3;spoil 30;dig 0;fill 0");
        did(x, "build 0 0 79");
        is(x, "level 0 99", 0);
        offsetsAre(x, 0, ("-3 ".repeat(25) + "3 ".repeat(15)).trim());
        is(x, "road 0 9", -30);
        did(x, "tune 10 29");
        is(x, "level 0 99", 0);
        offsetsAre(x, 0, ("-3 ".repeat(24) + "-2 " + "3 ".repeat(15)).trim());
        did(x, "tune 9 1");
        is(x, "road 0 8", 45);
        longestBalance(3);
        longestBalance(-3);
    }

    /** By 0 all must come to one level: 25 by 3 the one way, 15 the other, which is 30 together. */
    private static void longestBalance(int high) {
        GentleRoad x = serpentine(";depth 3;spoil 30;rise 0;dig 2");
        did(x, "build 0 0 79", "build 1 79 0");
        String[] places = row(x, 0, false).split(" ");
        for (int k = 0; k < 40; k++) {
            did(x, "raise " + places[k] + " " + (k < 25 ? high : -high));
        }
        int due = high > 0 ? 2 * 75 + 45 : 75 + 2 * 45;
        String begin = (-high + " ").repeat(25).trim();
        String end = (high + " ").repeat(15).trim();
        are(x, due + " " + due + " " + -10 * high + " " + -10 * high, "level 0 0", "level 1 0", "road 0 9", "road 1 9");
        offsetsAre(x, 0, begin + " " + end);
        offsetsAre(x, 1, end + " " + begin);
        are(x, "0 0 50 50", "road 0 10", "road 1 10", "road 0 11", "road 0 12");
        did(x, "tune 10 29");
        are(x, "-1 -1", "earth 0 0", "earth 1 0");
        is(x, "level 0 0", CANNOT);
    }

    private static void gradingEarth() {
        says("of all such the one of the least EARTH: DIG times what OFFSETS below 0 come to, without sign, and FILL times those above 0, together");
        int[][] prices = {{1, 1, 2}, {1, 2, 2}, {2, 1, 2}, {9, 9, 18}, {0, 9, 0}, {9, 0, 0}, {9, 4, 8}, {4, 9, 8}};
        for (int[] price : prices) {
            GentleRoad x = slope(2, ";depth 2;dig " + price[0] + ";fill " + price[1]);
            is(x, "earth 0 0", price[2]);
            is(x, "level 0 0", price[2]);
            offsetsAre(x, 0, price[0] > price[1] ? "2 0" : "0 -2");
            is(x, "road 0 8", price[2]);
        }
        GentleRoad x = slope(6, ";depth 3;dig 9;fill 8");
        is(x, "level 0 0", 3 * 9 + 3 * 8);
        offsetsAre(x, 0, "3 -3");
        did(x, "tune 8 2", "tune 9 1");
        is(x, "road 0 8", 9);
        // earth is least, not the offsets' number: two banks of 1 rather than a cutting of 3
        GentleRoad hill = land("land 3 2;row 0 1 0;row 90 90 90;dig 3");
        did(hill, "build 0 0 2");
        is(hill, "level 0 0", 2);
        offsetsAre(hill, 0, "1 0 1");
        did(hill, "tune 8 1");
        is(hill, "level 0 0", 1);
        offsetsAre(hill, 0, "0 -1 0");
    }

    private static void gradingFirst() {
        says("of like ones the first (by OFFSETS from the first PLACE on, at the first unlike ones the lesser).");
        GentleRoad x = slope(1, ";depth 1");
        is(x, "level 0 0", 1);
        offsetsAre(x, 0, "0 -1");
        // by nothing all are alike
        did(x, "tune 8 0", "tune 9 0");
        is(x, "level 0 0", 0);
        offsetsAre(x, 0, "0 -1");
        is(x, "level 0 99", 0);
        offsetsAre(x, 0, "-1 -1");
        // 0 0 -1 or 0 1 0: unlike at the second
        GentleRoad y = land("land 3 2;row 0 0 2;row 90 90 90");
        did(y, "build 0 0 2");
        is(y, "level 0 10", 1);
        offsetsAre(y, 0, "0 0 -1");
        // the other way round -1 0 0 comes ahead of 0 1 0
        did(y, "build 0 2 0");
        is(y, "level 0 10", 1);
        offsetsAre(y, 0, "-1 0 0");
        // nothing to do: 0 of earth is less than any
        did(y, "raise 2 -2");
        is(y, "level 0 0", 0);
        offsetsAre(y, 0, "0 0 0");
    }

    private static void gradingThatCannotBe() {
        says("It cannot be, if there are none such: then all stays.");
        GentleRoad x = slope(7, ";depth 3");
        did(x, "level 0 10");
        offsetsAre(x, 0, "3 -3");
        are(x, "2 -1", "count 4", "earth 0 9");
        is(x, "level 0 9", CANNOT);
        offsetsAre(x, 0, "3 -3");
        are(x, "2 1 6", "count 4", "count 3", "road 0 8");
        is(x, "undo", 1);
        offsetsAre(x, 0, "0 0");
        says("LEVELLED by a RULE: a ROAD's OFFSETS are those of GRADING.");
        is(x, "level 0 10", 6);
        offsetsAre(x, 0, "3 -3");
        // by a greater rule less is needed: offsets do not add up
        is(x, "level 0 60", 1);
        offsetsAre(x, 0, "0 -1");
        is(x, "level 0 70", 0);
        offsetsAre(x, 0, "0 0");
        did(x, "build 3 1 0");
        is(x, "level 3 60", 1);
        offsetsAre(x, 3, "-1 0");
        offsetsAre(x, 0, "0 0");
    }

    private static void raise() {
        says("RAISE of a PLACE by N (- 99 to 99, HEIGHT 0 to 99 then): HEIGHT is so much more.");
        GentleRoad x = land("land 2 2;row 0 99;row 50 1");
        are(x, "99 0 99 0 51 50 50", "raise 0 99", "raise 0 -99", "raise 0 99", "raise 1 -99", "raise 2 1", "raise 2 -1",
                "raise 2 0");
        are(x, "99 0 50 1", "place 0 0", "place 1 0", "place 2 0", "place 3 0");
        for (int n : new int[] {-100, 100, LEAST, MOST}) {
            for (int place = 0; place < 4; place++) {
                is(x, "raise " + place + " " + n, WRONG);
            }
        }
        is(x, "raise 0 1", WRONG);
        is(x, "raise 1 -1", WRONG);
        is(x, "raise 2 50", WRONG);
        is(x, "raise 2 49", 99);
        is(x, "raise 2 -99", 0);
        is(x, "raise 3 -2", WRONG);
        is(x, "raise 3 -1", 0);
        are(x, "99 0 0 0", "place 0 0", "place 1 0", "place 2 0", "place 3 0");
    }

    private static void flood() {
        says("FLOOD: a PLACE is WET, or not.");
        GentleRoad x = flat(2, 2, ";wet 3");
        are(x, "true 1 false 1 true 0 false 0", "flood 0 true", "place 0 1", "flood 0 true", "place 0 1",
                "flood 0 false", "place 0 1", "flood 0 false", "place 0 1");
        are(x, "false true", "flood 3 true", "flood 3 false");
        is(x, "count 2", 0);
        did(x, "flood 0 true", "flood 1 true", "flood 2 true", "flood 3 true");
        is(x, "count 2", 4);
        says("(ROADS, OFFSETS stay.)");
        GentleRoad y = land("land 3 2;row 0 1 0;row 90 90 90");
        did(y, "build 1 0 2", "level 1 0");
        for (int place = 0; place < 3; place++) {
            did(y, "flood " + place + " true", "raise " + place + " 50");
        }
        is(y, "count 3", 2);
        placesAre(y, 1, "0 1 2");
        offsetsAre(y, 1, "0 -1 0");
    }

    private static void takenBack() {
        says("TAKEN BACK: the latest ACT (BUILD, DROP, LEVELLED, RAISE, FLOOD, a TERM told; each that was done, also one that changed nothing) that was not taken back yet");
        GentleRoad x = land("land 3 2;row 0 1 0;row 90 90 90");
        did(x, "build 0 0 2");
        are(x, "1 0 0", "count 4", "undo", "count 3");
        did(x, "build 0 0 2", "drop 0");
        are(x, "2 1 1", "count 4", "undo", "count 3");
        placesAre(x, 0, "0 1 2");
        did(x, "level 0 0");
        are(x, "2 1", "count 4", "undo");
        offsetsAre(x, 0, "0 0 0");
        did(x, "level 0 0", "build 0 1 2");
        are(x, "3 2", "count 4", "undo");
        placesAre(x, 0, "0 1 2");
        offsetsAre(x, 0, "0 -1 0");
        did(x, "raise 4 5");
        are(x, "95 2 90", "place 4 0", "undo", "place 4 0");
        did(x, "flood 4 true");
        are(x, "1 2 0", "place 4 1", "undo", "place 4 1");
        did(x, "tune 10 9");
        are(x, "9 2 5", "term 10", "undo", "term 10");
        // what changed nothing counts
        did(x, "tune 10 5", "raise 4 0", "flood 4 false", "level 0 0", "build 1 0 1");
        did(x, "build 1 0 1");
        are(x, "8 7 2 6 1 5 4 3 2", "count 4", "undo", "road 1 0", "undo", "count 3", "undo", "undo", "undo", "undo");
        offsetsAre(x, 0, "0 -1 0");
        are(x, "1 0 0", "undo", "undo", "count 3");
        is(x, "undo", CANNOT);
        // one that was taken back is not the latest any more
        GentleRoad y = flat(2, 2, "");
        did(y, "tune 5 1", "tune 5 2", "undo", "tune 5 3", "undo");
        are(y, "1 1 0 20", "count 4", "term 5", "undo", "term 5");
        is(y, "undo", CANNOT);
        // what was refused, and what is asked, is none
        did(y, "best 0 1 0", "gate 0 3", "image", "feed 0 0 0 0 0", "spare 0 3 0", "grade 0 3");
        is(y, "tune 5 100", WRONG);
        is(y, "raise 0 -1", WRONG);
        is(y, "drop 0", CANNOT);
        is(y, "count 4", 0);
        is(y, "undo", CANNOT);
    }

    private static void takenBackLeaves() {
        says(": all is as ahead of it (but for the TAPE, fault(), THE IMAGE;");
        GentleRoad x = flat(2, 2, "");
        did(x, "tune 5 1");
        tell(x, "land 2 1");
        is(x, "land", WRONG);
        did(x, "feed 0 0 0 0 0", "end 13", "tune 5 2", "image", "tune 5 3");
        are(x, "2 2 1 1", "undo", "term 5", "undo", "term 5");
        are(x, "7 false true", "fault", "end 14", "end 13");
        is(x, "undo", 0);
        are(x, "7 false true", "fault", "end 14", "end 13");
        are(x, "true 2", "back", "term 5");
        is(x, "fault", 7);
        is(x, "end 13", true);
        // all at once: a road, its offsets, the land under it, a term
        GentleRoad y = land("land 3 2;row 0 1 0;row 90 90 90;wet 5");
        did(y, "build 2 0 2", "level 2 0", "raise 1 1", "flood 5 false", "tune 1 3");
        did(y, "drop 2", "build 2 4 5", "undo", "undo", "undo", "undo", "undo");
        are(y, "1 1 1 2 4", "place 1 0", "place 5 1", "term 1", "count 4", "count 3");
        placesAre(y, 2, "0 1 2");
        offsetsAre(y, 2, "0 -1 0");
    }

    private static void eightAreRemembered() {
        says("(8 are remembered)");
        for (int acts = 7; acts <= 20; acts++) {
            GentleRoad x = flat(2, 2, "");
            for (int k = 1; k <= acts; k++) {
                did(x, "tune 5 " + k);
                is(x, "count 4", Math.min(k, 8));
            }
            int kept = Math.min(acts, 8);
            for (int k = 1; k <= kept; k++) {
                is(x, "undo", kept - k);
                is(x, "term 5", acts == k ? 20 : acts - k);
            }
            is(x, "undo", CANNOT);
            is(x, "term 5", acts <= 8 ? 20 : acts - 8);
        }
        says("an ACT that went as the ninth came is remembered no more).");
        GentleRoad x = flat(2, 2, "");
        for (int k = 1; k <= 9; k++) {
            did(x, "tune 5 " + k);
        }
        // the ninth is taken back: the first does not come again
        are(x, "7 7", "undo", "count 4");
        for (int k = 7; k >= 1; k--) {
            is(x, "undo", k - 1);
        }
        is(x, "undo", CANNOT);
        is(x, "term 5", 1);
        // and new ones fill the room again
        for (int k = 11; k <= 18; k++) {
            did(x, "tune 5 " + k);
        }
        is(x, "count 4", 8);
        for (int k = 7; k >= 0; k--) {
            is(x, "undo", k);
        }
        is(x, "term 5", 1);
        is(x, "undo", CANNOT);
    }

    private static void noneAreRemembered() {
        says("A text, going back: none are remembered.");
        GentleRoad x = flat(2, 2, "");
        did(x, "tune 5 1", "tune 5 2");
        tell(x, FOUR);
        is(x, "land", 4);
        is(x, "count 4", 0);
        is(x, "undo", CANNOT);
        did(x, "image", "tune 5 3", "tune 5 4", "back");
        is(x, "count 4", 0);
        is(x, "undo", CANNOT);
        // nor those that were remembered as the image was kept
        did(x, "tune 5 5", "tune 5 6", "image", "tune 5 7");
        are(x, "3 true 0 6", "count 4", "back", "count 4", "term 5");
        is(x, "undo", CANNOT);
        // a text that is wrong is none, and so is going back to none
        GentleRoad y = flat(2, 2, "");
        did(y, "tune 5 1", "tune 5 2");
        is(y, "back", false);
        is(y, "land", WRONG);
        are(y, "2 1 1", "count 4", "undo", "term 5");
        // full, then none, then full again
        GentleRoad z = flat(2, 2, "");
        for (int k = 1; k <= 11; k++) {
            did(z, "tune 5 " + k);
        }
        tell(z, FOUR + ";hair 50");
        did(z, "land", "tune 5 51", "tune 5 52");
        are(z, "2 1 51 0 50", "count 4", "undo", "term 5", "undo", "term 5");
        is(z, "undo", CANNOT);
    }
}

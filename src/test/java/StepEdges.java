/** The document's Terms, second part: steps, bends and ways. */
final class StepEdges extends Edges {
    private StepEdges() {
    }

    static void run() {
        under("Terms");
        headings();
        placesThatAreThere();
        wetPlaces();
        betweenTwoWetOnes();
        steep();
        bends();
        hairpins();
        ways();
        costs();
        kindsOfSums();
        used();
        washed();
        best();
    }

    /** All are far too high but the middle one and one beside it. */
    private static GentleRoad only(int heading, String more) {
        int[] heights = heights(99);
        heights[4] = 0;
        heights[AROUND[heading]] = 0;
        return nine(heights, more);
    }

    private static void headings() {
        says("HEADINGS 0 to 7: north (a row less), north-east, east (a PLACE more), and on round.");
        for (int heading = 0; heading < 8; heading++) {
            is(only(heading, ""), "place 4 3", 1 << heading);
            is(only(heading, ""), "place " + AROUND[heading] + " 3", 1 << (heading + 4) % 8);
        }
        is(flat(3, 3, ""), "place 4 3", 255);
        says("A STEP from a PLACE by a HEADING leads to the PLACE beside it there");
        for (int heading = 0; heading < 8; heading++) {
            wayIs(only(heading, ""), 4, AROUND[heading], 3, "4 " + AROUND[heading]);
            is(only(heading, ""), "reach 4", 1);
        }
        says("LONG is 10 by an even HEADING, 14 by an odd one");
        for (int heading = 0; heading < 8; heading++) {
            is(only(heading, ""), "best 4 " + AROUND[heading] + " 1", heading % 2 == 0 ? 10 : 14);
        }
    }

    private static void placesThatAreThere() {
        says("It can be, if that PLACE is there");
        GentleRoad x = flat(3, 3, "");
        int[] bits = {4 + 8 + 16, 4 + 8 + 16 + 32 + 64, 16 + 32 + 64, 1 + 2 + 4 + 8 + 16, 255, 1 + 16 + 32 + 64 + 128,
            1 + 2 + 4, 1 + 2 + 4 + 64 + 128, 1 + 64 + 128};
        for (int place = 0; place < 9; place++) {
            is(x, "place " + place + " 3", bits[place]);
        }
        GentleRoad least = flat(2, 2, "");
        are(least, "28 112 7 193", "place 0 3", "place 1 3", "place 2 3", "place 3 3");
        // from the end of a row none leads to the begin of the next one
        wayIs(flat(3, 2, ""), 2, 3, 3, "2 1 3");
        GentleRoad most = flat(9, 9, "");
        are(most, "28 112 7 193", "place 0 3", "place 8 3", "place 72 3", "place 80 3");
        are(most, "31 241", "place 9 3", "place 17 3");
    }

    private static void wetPlaces() {
        says("both are not WET");
        for (int heading = 0; heading < 8; heading++) {
            GentleRoad x = flat(3, 3, "");
            did(x, "flood " + AROUND[heading] + " true");
            is(x, "place 4 3", 255 - (1 << heading));
            is(x, "place " + AROUND[heading] + " 3", 0);
            did(x, "flood " + AROUND[heading] + " false");
            is(x, "place 4 3", 255);
        }
        GentleRoad x = flat(3, 3, ";wet 4");
        is(x, "place 4 3", 0);
        is(x, "place 0 3", 4 + 16);
        is(x, "best 4 0 0", NONE);
        is(x, "best 0 4 0", NONE);
        is(flat(2, 2, ";wet 0;wet 1;wet 2;wet 3"), "place 0 3", 0);
    }

    private static void betweenTwoWetOnes() {
        says("by an odd HEADING not both PLACES that lie beside both (those by the HEADINGS before and behind) are WET");
        for (int heading = 1; heading < 8; heading += 2) {
            int before = AROUND[heading - 1];
            int behind = AROUND[(heading + 1) % 8];
            int gone = (1 << (heading - 1)) + (1 << (heading + 1) % 8);
            GentleRoad x = flat(3, 3, "");
            did(x, "flood " + before + " true");
            is(x, "place 4 3", 255 - (1 << (heading - 1)));
            did(x, "flood " + before + " false", "flood " + behind + " true");
            is(x, "place 4 3", 255 - (1 << (heading + 1) % 8));
            did(x, "flood " + before + " true");
            is(x, "place 4 3", 255 - gone - (1 << heading));
            is(x, "best 4 " + AROUND[heading] + " 3", NONE);
            is(x, "best " + AROUND[heading] + " 4 3", NONE);
        }
        // steps by even headings lie between none
        GentleRoad x = flat(3, 3, ";wet 0;wet 2;wet 3;wet 5");
        is(x, "place 4 3", 1 + 8 + 16 + 32);
        // the wet ones are those of now
        GentleRoad y = flat(2, 2, ";wet 1;wet 2");
        is(y, "best 0 3 0", NONE);
        did(y, "flood 2 false");
        is(y, "best 0 3 0", 14);
    }

    private static void steepAt(int grade, int heading, int differ) {
        String[] to = {"best 4 " + AROUND[heading] + " 3", "best " + AROUND[heading] + " 4 3"};
        for (int up = 0; up < 2; up++) {
            int[] heights = heights(99);
            heights[4] = up == 0 ? 20 : 20 + differ;
            heights[AROUND[heading]] = up == 0 ? 20 + differ : 20;
            GentleRoad x = nine(heights, ";grade " + grade);
            are(x, "1 1", to);
            is(x, "place 4 3", 1 << heading);
            did(x, "raise " + (up == 0 ? AROUND[heading] : 4) + " 1");
            are(x, "-1 -1", to);
            is(x, "place 4 3", 0);
        }
    }

    private static void steep() {
        says("and it is not STEEP: STEEP is a STEP, if 100 times what both HEIGHTS differ by is more than GRADE times LONG.");
        // 100 times so much is just not more than so many times 10, or 14
        int[][] even = {{1, 0}, {9, 0}, {10, 1}, {19, 1}, {20, 2}, {30, 3}, {50, 5}, {89, 8}, {90, 9}, {99, 9}};
        int[][] odd = {{1, 0}, {7, 0}, {8, 1}, {14, 1}, {15, 2}, {20, 2}, {50, 7}, {92, 12}, {93, 13}, {99, 13}};
        for (int heading = 0; heading < 8; heading++) {
            for (int[] pair : heading % 2 == 0 ? even : odd) {
                steepAt(pair[0], heading, pair[1]);
            }
        }
        GentleRoad far = land("land 2 2;row 0 99;row 99 0;grade 99");
        are(far, "8 8 8", "place 0 3", "place 0 3", "place 0 3");
        did(far, "tune 0 1");
        is(far, "best 0 3 0", 14);
    }

    /** From one beside the middle over it to another one; all others are too high, and both too far apart. */
    private static GentleRoad bent(int in, int out, String more) {
        int[] heights = heights(99);
        heights[AROUND[in]] = 0;
        heights[4] = 2;
        heights[AROUND[out]] = 3;
        return nine(heights, more);
    }

    private static void bends() {
        says("A BEND at a PLACE from a HEADING to another one: how many eighths these are apart, the shorter way round (0 to 4)");
        for (int in = 0; in < 8; in++) {
            for (int out = 0; out < 8; out++) {
                if (in == out) {
                    continue;
                }
                int apart = Math.abs((in + 4) % 8 - out);
                int bend = Math.min(apart, 8 - apart);
                GentleRoad x = bent(in, out, ";bend 4;turn 7");
                String call = "best " + AROUND[in] + " " + AROUND[out];
                is(x, call + " 0", longOf(in) + 2 * 2 + longOf(out) + 2 + 7 * bend);
                did(x, "tune 1 " + bend);
                is(x, call + " 3", 2);
                if (bend > 0) {
                    did(x, "tune 1 " + (bend - 1));
                    is(x, call + " 3", NONE);
                }
            }
        }
        // right back is 4: seen in a road that turns at 0
        GentleRoad x = twice();
        did(x, "build 0 4 13");
        placesAre(x, 0, "4 3 2 1 0 1 7 13");
        did(x, "tune 1 4", "tune 4 9", "tune 5 99");
        int steps = 10 + 12 + 12 + 10 + 10 + 14 + 14;
        // 4 eighths at 0, 3 at 1 the first time would be none: from 0 to 1 to 7 it is 1
        is(x, "road 0 3", steps + 4 * 9 + 9);
        is(x, "road 0 4", 0);
        did(x, "tune 1 3");
        is(x, "road 0 3", steps + 99 + 9);
        is(x, "road 0 4", 1);
        // and in a way that must turn there, by a hairpin
        GentleRoad again = twice();
        for (int hair : new int[] {0, 20, 99}) {
            did(again, "tune 5 " + hair);
            are(again, (steps + hair + 1) + " " + (steps + hair + 1), "best 4 13 0", "build 0 4 13");
        }
        says("it can be, if it is BEND at most");
        // from 7 north to 4, then on: north, north-east, east, south-east
        int[] out = {0, 1, 2, 3};
        for (int bend = 0; bend < 4; bend++) {
            for (int most = 0; most <= 4; most++) {
                GentleRoad y = bent(4, out[bend], ";bend " + most);
                is(y, "best 7 " + AROUND[out[bend]] + " 3", bend <= most ? 2 : NONE);
            }
        }
    }

    private static void hairpins() {
        says("or as a HAIRPIN, if HEIGHTS of all PLACES beside that PLACE (up to 8 that are there) differ from its own by FLAT at most.");
        for (int heading = 0; heading < 8; heading++) {
            for (int differ : new int[] {7, -7}) {
                int[] heights = heights(50);
                heights[AROUND[heading]] += differ;
                GentleRoad x = nine(heights, ";flat 7");
                is(x, "place 4 2", 1);
                did(x, "raise " + AROUND[heading] + " " + (differ > 0 ? 1 : -1));
                is(x, "place 4 2", 0);
                did(x, "tune 2 8");
                is(x, "place 4 2", 1);
            }
        }
        GentleRoad zero = nine(heights(50), ";flat 0");
        are(zero, "1 1 1", "place 4 2", "place 0 2", "place 8 2");
        did(zero, "raise 8 1");
        are(zero, "0 1 0", "place 4 2", "place 0 2", "place 8 2");
        is(land("land 2 2;row 0 99;row 99 99;flat 99"), "place 0 2", 1);
        is(land("land 2 2;row 0 99;row 0 0;flat 98"), "place 0 2", 0);
        // at a corner 3, at a side 5 are there; none over the edge counts
        GentleRoad x = land("land 3 3;row 0 0 9;row 0 0 9;row 9 9 9;flat 0");
        are(x, "1 0 0 0", "place 0 2", "place 1 2", "place 3 2", "place 4 2");
        GentleRoad side = land("land 3 3;row 0 0 0;row 0 0 0;row 9 9 9;flat 0");
        are(side, "1 1 1 0 0 0", "place 0 2", "place 1 2", "place 2 2", "place 3 2", "place 4 2", "place 5 2");
        // heights of wet ones count, and a wet one's own
        GentleRoad wet = land("land 2 2;row 0 9;row 0 0;flat 8;wet 1");
        are(wet, "0 0", "place 0 2", "place 1 2");
        did(wet, "tune 2 9");
        are(wet, "1 1", "place 0 2", "place 1 2");
        // ways: 99 beside 2 is 97
        GentleRoad y = bent(4, 3, ";bend 2;flat 97;hair 33");
        is(y, "best 7 8 0", 10 + 4 + 14 + 2 + 33);
        did(y, "tune 2 96");
        is(y, "best 7 8 0", NONE);
        did(y, "tune 1 3");
        is(y, "best 7 8 0", 10 + 4 + 14 + 2 + 3);
        // at a corner a hairpin needs three, at a side five
        GentleRoad corner = land("land 3 2;row 0 0 9;row 0 0 0;bend 0;flat 0");
        wayIs(corner, 0, 5, 0, "0 3 4 5");
        is(corner, "best 0 5 0", 10 + 20 + 10 + 10);
        did(corner, "raise 1 1");
        is(corner, "best 0 5 0", NONE);
    }

    private static void ways() {
        says("A WAY from a PLACE to an unlike one: STEPS that can be, one behind another, with BENDS that can be between them");
        GentleRoad x = flat(3, 3, "");
        is(x, "best 4 4 0", WRONG);
        is(x, "best 0 8 3", 2);
        GentleRoad lines = land("land 3 3;row 0 1 0;row 1 0 1;row 0 1 0;bend 0;flat 0");
        are(lines, "2 -1 2 -1", "best 0 8 3", "best 0 5 3", "best 1 7 3", "best 1 8 3");
        says("(with any HEADING at first; a PLACE may be come to again).");
        for (int heading = 0; heading < 8; heading++) {
            is(lines, "best 4 " + AROUND[heading] + " 0", longOf(heading) + (heading % 2 == 0 ? 2 : 0));
        }
        // by 0 it were as far as by 3, and 0 comes first, but at 4 one cannot turn there
        GentleRoad tie = land("land 3 2;row 1 3 0;row 1 0 0;wet 5");
        wayIs(tie, 2, 1, 3, "2 4 3 1");
        did(tie, "tune 1 2");
        wayIs(tie, 2, 1, 3, "2 4 0 1");
        GentleRoad y = twice();
        wayIs(y, 4, 13, 0, "4 3 2 1 0 1 7 13");
        is(y, "best 4 13 3", 7);
        did(y, "flood 0 true");
        is(y, "best 4 13 3", NONE);
    }

    private static void costs() {
        says("COST of a STEP: LONG and RISE times what both HEIGHTS differ by");
        GentleRoad x = land("land 2 2;row 0 2;row 90 1;grade 20");
        for (int rise : new int[] {0, 1, 2, 9}) {
            did(x, "tune 3 " + rise);
            are(x, (10 + 2 * rise) + " " + (10 + 2 * rise), "best 0 1 0", "best 1 0 0");
            are(x, (14 + rise) + " " + (14 + rise), "best 0 3 0", "best 3 0 0");
        }
        says("of a BEND: TURN times how many eighths, if it is BEND at most, else HAIR.");
        for (int turn : new int[] {0, 1, 9}) {
            GentleRoad y = bent(4, 2, ";bend 2;flat 99;hair 50;turn " + turn);
            is(y, "best 7 5 0", 10 + 4 + 10 + 2 + 2 * turn);
            did(y, "tune 1 1");
            is(y, "best 7 5 0", 10 + 4 + 10 + 2 + 50);
        }
        for (int hair : new int[] {0, 1, 99}) {
            GentleRoad y = bent(4, 2, ";bend 1;flat 99;turn 9;hair " + hair);
            is(y, "best 7 5 0", 10 + 4 + 10 + 2 + hair);
            did(y, "tune 1 2");
            // where a hairpin could be, too, it is TURN that counts
            is(y, "best 7 5 0", 10 + 4 + 10 + 2 + 18);
        }
        // straight on costs nothing, by whatever terms
        is(flat(3, 3, ";bend 0;turn 9;hair 99"), "best 0 8 0", 28);
    }

    private static void kindsOfSums() {
        says("By KINDS: 0 COST, all together; 1 LONG, together; 2 CLIMB: what is gone up, together; 3 STEPS: how many");
        // 0 up to 1 (2 more), down to 2 (1 less), down across to 7 (1 less): 10 10 14, bends of 0 and 1
        GentleRoad x = land("land 4 2;row 0 2 1 90;row 90 90 90 0;turn 5;rise 3");
        are(x, (10 + 6 + 10 + 3 + 14 + 3 + 5) + " 34 2 3", "best 0 7 0", "best 0 7 1", "best 0 7 2", "best 0 7 3");
        are(x, (10 + 6 + 10 + 3 + 14 + 3 + 5) + " 34 2 3", "best 7 0 0", "best 7 0 1", "best 7 0 2", "best 7 0 3");
        is(x, "best 0 2 2", 2);
        is(x, "best 2 0 2", 1);
        is(x, "best 1 7 2", 0);
        is(x, "best 7 1 2", 2);
        is(x, "best 0 7 -1", NO_SUCH);
        is(x, "best 0 7 6", NO_SUCH);
        // the least of each may be another way: over a hill, round it, and by hairpins
        GentleRoad y = land("land 4 3;row 1 4 4 1;row 1 9 9 1;row 1 1 1 1;grade 30;rise 9;turn 2;bend 2;flat 0");
        wayIs(y, 0, 3, 1, "0 1 2 3");
        wayIs(y, 0, 3, 0, "0 4 9 10 7 3");
        wayIs(y, 0, 3, 2, "0 4 9 10 7 3");
        wayIs(y, 0, 3, 3, "0 1 2 3");
        are(y, "66 30 0 3", "best 0 3 0", "best 0 3 1", "best 0 3 2", "best 0 3 3");
    }

    private static void used() {
        says("4 USED: as COST, but of a STEP that some ROAD that is BUILT has (to or fro) the half, rounded down");
        GentleRoad x = land("land 3 2;row 0 1 0;row 50 50 50;rise 1");
        are(x, "11 22", "best 0 1 4", "best 0 2 4");
        did(x, "build 0 0 1");
        are(x, "5 5 16 16", "best 0 1 4", "best 1 0 4", "best 0 2 4", "best 2 0 4");
        is(x, "best 0 1 0", 11);
        // two roads that have it half it once
        did(x, "build 3 1 0");
        is(x, "best 0 1 4", 5);
        did(x, "drop 0");
        is(x, "best 0 1 4", 5);
        did(x, "drop 3");
        is(x, "best 0 1 4", 11);
        did(x, "undo", "raise 1 -1");
        is(x, "best 0 1 4", 5);
        did(x, "raise 1 2");
        is(x, "best 0 1 4", 6);
        did(x, "flood 1 true");
        is(x, "best 0 1 4", NONE);
        // of all steps the road's alone, to and fro: none beside it, whatever place it ends at
        for (int heading = 0; heading < 8; heading++) {
            for (String road : new String[] {"4 " + AROUND[heading], AROUND[heading] + " 4"}) {
                onlyHalf("build 1 " + road, 4, AROUND[heading]);
            }
        }
        onlyHalf("build 3 0 1", 0, 1);
        onlyHalf("build 3 1 0", 0, 1);
        // roads that cross have all their steps
        GentleRoad cross = flat(3, 3, "");
        did(cross, "build 0 3 5", "build 1 1 7", "build 2 0 8", "build 3 6 2");
        for (int heading = 0; heading < 8; heading++) {
            String half = "" + longOf(heading) / 2;
            are(cross, half + " " + half, "best 4 " + AROUND[heading] + " 4", "best " + AROUND[heading] + " 4 4");
        }
        are(cross, "10 10 10 10", "best 0 1 4", "best 1 2 4", "best 6 3 4", "best 8 7 4");
        // bends are not halved
        GentleRoad bend = land("land 3 2;row 0 0 50;row 50 50 0;turn 9");
        did(bend, "build 2 0 5");
        are(bend, "33 21 21", "best 0 5 0", "best 0 5 4", "best 5 0 4");
        // a way round by a road is less
        GentleRoad far = flat(9, 2, "");
        did(far, "build 1 0 8");
        wayIs(far, 9, 17, 0, "9 10 11 12 13 14 15 16 17");
        wayIs(far, 9, 17, 4, "9 1 2 3 4 5 6 7 17");
        is(far, "best 9 17 4", 14 + 6 * 5 + 14 + 2);
        is(new GentleRoad(), "best 0 1 4", NO_PLACE);
    }

    /** On level ground with a road of one step every step costs what it did, but for that one. */
    private static void onlyHalf(String build, int one, int other) {
        GentleRoad x = flat(3, 3, "");
        did(x, build);
        for (int place = 0; place < 9; place++) {
            for (int next = 0; next < 9; next++) {
                int rows = Math.abs(place / 3 - next / 3);
                int columns = Math.abs(place % 3 - next % 3);
                if (place == next || rows > 1 || columns > 1) {
                    continue;
                }
                boolean isRoad = place == one && next == other || place == other && next == one;
                int due = rows + columns == 1 ? 10 : 14;
                is(x, "best " + place + " " + next + " 4", isRoad ? due / 2 : due);
            }
        }
    }

    private static void washed() {
        says("5 WASHED: as COST, and of each STEP CATCH of the PLACE to which it leads.");
        // 1 and the row below run to 0, 2 and 5 to 1
        GentleRoad x = land("land 3 2;row 0 1 2;row 9 9 9");
        are(x, "6 3 1", "water 0 1", "water 1 1", "water 2 1");
        is(x, "best 2 0 5", 10 + 2 + 3 + 10 + 2 + 6);
        is(x, "best 0 2 5", 10 + 2 + 3 + 10 + 2 + 1);
        is(x, "best 1 0 5", 10 + 2 + 6);
        is(x, "best 0 1 5", 10 + 2 + 3);
        // roads do not matter for it
        did(x, "build 0 0 2");
        is(x, "best 0 2 5", 28);
        GentleRoad all = land("land 2 2;row 0 1;row 1 1;rise 0");
        is(all, "best 3 0 5", 14 + 4);
        is(all, "best 0 3 5", 14 + 1);
        says("BEST by a KIND");
        are(x, "24 20 2 2", "best 0 2 0", "best 0 2 1", "best 0 2 2", "best 0 2 3");
    }

    private static void best() {
        says(": the WAY of the least of that, of like ones that of the fewest STEPS, ");
        // over 7, 2 high: 48 in two steps; round the wet middle by 3 1 5: 48 in four
        GentleRoad x = flat(3, 3, ";wet 4;turn 0;rise 7;bend 2");
        did(x, "raise 7 2");
        is(x, "best 6 8 0", 48);
        wayIs(x, 6, 8, 0, "6 7 8");
        did(x, "tune 3 8");
        wayIs(x, 6, 8, 0, "6 3 1 5 8");
        is(x, "best 6 8 0", 48);
        did(x, "tune 3 6");
        wayIs(x, 6, 8, 0, "6 7 8");
        is(x, "best 6 8 0", 44);
        says("of these that whose PLACES come first (at the first that are unlike the lesser one).");
        GentleRoad y = flat(3, 3, "");
        wayIs(y, 5, 0, 0, "5 1 0");
        wayIs(y, 0, 5, 0, "0 1 5");
        wayIs(y, 3, 2, 0, "3 1 2");
        wayIs(y, 2, 3, 0, "2 1 3");
        wayIs(y, 6, 5, 0, "6 4 5");
        wayIs(y, 3, 5, 3, "3 1 5");
        GentleRoad wide = flat(4, 4, "");
        wayIs(wide, 0, 14, 1, "0 4 9 14");
        wayIs(wide, 14, 0, 1, "14 9 4 0");
        wayIs(wide, 0, 11, 1, "0 1 6 11");
        // alike up to the second place: 2 or 6 is the third, and 1 or 5
        GentleRoad later = flat(4, 3, "");
        wayIs(later, 0, 7, 1, "0 1 2 7");
        wayIs(later, 3, 4, 1, "3 2 1 4");
        did(later, "flood 2 true");
        wayIs(later, 0, 7, 1, "0 1 6 7");
        wayIs(later, 7, 0, 1, "7 6 1 0");
        says("(By CLIMB 0, too: of those the fewest STEPS.)");
        wayIs(y, 0, 8, 2, "0 4 8");
        wayIs(y, 3, 5, 2, "3 1 5");
        is(y, "best 0 8 2", 0);
        GentleRoad hill = land("land 3 3;row 5 5 5;row 5 9 5;row 5 5 5;grade 99;bend 4");
        is(hill, "best 3 5 2", 0);
        wayIs(hill, 3, 5, 2, "3 1 5");
    }
}

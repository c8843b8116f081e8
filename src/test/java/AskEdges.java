/** The document's Terms, third part: what is asked of ways, roads and water; the image; what is thrown. */
final class AskEdges extends Edges {
    private AskEdges() {
    }

    static void run() {
        under("Terms");
        reach();
        leastGrade();
        gate();
        bored();
        meet();
        round();
        ruling();
        ofARoad();
        steepest();
        water();
        spill();
        bridges();
        joins();
        spare();
        stages();
        common();
        image();
        thrown();
    }

    private static void reach() {
        says("REACH of a PLACE: PLACES to which there is a WAY from it: how many.");
        GentleRoad x = flat(9, 9, "");
        are(x, "80 80 80", "reach 0", "reach 40", "reach 80");
        GentleRoad y = flat(3, 3, ";wet 1;wet 3;wet 4");
        are(y, "0 0 4 4", "reach 0", "reach 1", "reach 2", "reach 8");
        is(land("land 2 2;row 0 3;row 3 3"), "reach 0", 0);
        is(land("land 2 2;row 0 3;row 3 3"), "reach 1", 2);
        is(land("land 2 2;row 0 2;row 3 3"), "reach 0", 3);
        is(land("land 2 2;row 0 2;row 5 5"), "reach 0", 1);
        // by GRADE as it is: 4 by 10 is steep below 40
        GentleRoad grade = land("land 2 2;row 0 4;row 90 90");
        for (int at : new int[] {39, 40, 1, 99}) {
            did(grade, "tune 0 " + at);
            is(grade, "reach 0", at < 40 ? 0 : 1);
        }
        // one comes to 1 and its own place again, which count once and not at all
        is(twice(), "reach 4", 7);
        is(land("land 3 3;row 0 1 0;row 1 0 1;row 0 1 0;bend 0;flat 0"), "reach 0", 6);
        is(land("land 3 3;row 0 1 0;row 1 0 1;row 0 1 0;bend 0;flat 0"), "reach 4", 8);
    }

    private static void leastGrade() {
        says("LEAST GRADE of two PLACES: the least GRADE (1 to 99) by which there is a WAY; none.");
        int[] across = {1, 8, 15, 22, 29, 36, 43, 50, 58, 65, 72, 79, 86, 93, -1};
        for (int differ = 0; differ <= 14; differ++) {
            GentleRoad x = land("land 2 2;row 0 90;row 90 " + differ);
            are(x, across[differ] + " " + across[differ], "grade 0 3", "grade 3 0");
        }
        for (int differ = 0; differ <= 11; differ++) {
            GentleRoad x = land("land 2 2;row 0 " + differ + ";row 90 90");
            int due = differ == 0 ? 1 : differ <= 9 ? 10 * differ : NONE;
            are(x, due + " " + due, "grade 0 1", "grade 1 0");
        }
        // whatever GRADE is by now, and it stays
        GentleRoad x = land("land 3 2;row 0 5 9;row 90 90 90");
        for (int grade : new int[] {1, 49, 50, 51, 99}) {
            did(x, "tune 0 " + grade);
            are(x, "50 " + grade, "grade 0 2", "term 0");
        }
        is(flat(2, 2, ";wet 0"), "grade 0 3", NONE);
        is(flat(2, 2, ";wet 1;wet 2"), "grade 0 3", NONE);
        // bends must be able to be: no grade helps
        GentleRoad bend = land("land 3 3;row 0 0 90;row 90 90 0;row 90 90 0;bend 0;flat 0");
        is(bend, "grade 0 5", NONE);
        did(bend, "tune 1 1");
        is(bend, "grade 0 5", 1);
    }

    private static void gate() {
        says("GATE of two PLACES: the first PLACE, unlike both, without which (were it WET) there is no WAY, though there is one; none.");
        GentleRoad x = flat(5, 2, ";wet 5;wet 6;wet 7;wet 8;wet 9");
        are(x, "1 1 2 3 -1 -1 1", "gate 0 4", "gate 4 0", "gate 1 4", "gate 2 4", "gate 3 4", "gate 0 1", "gate 2 0");
        is(x, "count 2", 5);
        are(x, "-1 -1", "gate 0 5", "gate 5 6");
        did(x, "flood 2 true");
        is(x, "gate 0 4", NONE);
        GentleRoad open = flat(9, 9, "");
        are(open, "-1 -1 -1", "gate 0 80", "gate 40 41", "gate 0 1");
        // both beside a step across may not be wet
        are(flat(2, 2, ";wet 1"), "2 2", "gate 0 3", "gate 3 0");
        are(flat(2, 2, ";wet 2"), "1 1", "gate 0 3", "gate 3 0");
        are(flat(2, 2, ";wet 3"), "0 0", "gate 1 2", "gate 2 1");
        are(flat(2, 2, ";wet 0"), "3 3", "gate 1 2", "gate 2 1");
        is(flat(2, 2, ""), "gate 0 3", NONE);
        // the first place of all
        are(flat(3, 2, ";wet 4"), "0 0", "gate 1 3", "gate 3 1");
        // the last place but one of the greatest land; with more water 78, then 77 come first
        GentleRoad last = flat(9, 9, ";wet 71");
        are(last, "79 79", "gate 0 80", "gate 80 0");
        did(last, "flood 70 true");
        are(last, "78 78", "gate 0 80", "gate 80 0");
        did(last, "flood 69 true");
        are(last, "77 77", "gate 0 80", "gate 80 0");
        // bends count: without the middle one only a hairpin is left, and it is not flat
        GentleRoad lines = land("land 3 3;row 0 1 0;row 1 0 1;row 0 1 0;bend 0;flat 0");
        is(lines, "gate 0 8", 4);
        is(lines, "gate 0 5", NONE);
        // without 1 one must go by 4, 4 higher: steep across below 29
        GentleRoad grade = land("land 3 2;row 0 0 0;row 90 4 90;bend 2");
        for (int at : new int[] {1, 28, 29, 20, 50, 99}) {
            did(grade, "tune 0 " + at);
            are(grade, at < 29 ? "1 1" : "-1 -1", "gate 0 2", "gate 2 0");
        }
        // nothing is changed by asking
        are(lines, "0 0", "count 2", "count 4");
    }

    private static void bored() {
        says("BORED with N (0 to 3): the least COST of a WAY from a PLACE to another one, if N STEPS of it at most may be STEEP, each for BORE more; none.");
        GentleRoad x = flat(5, 2, ";wet 5;wet 6;wet 7;wet 8;wet 9");
        did(x, "raise 1 9", "raise 2 18", "raise 3 27", "raise 4 36");
        for (int steps = 1; steps <= 4; steps++) {
            for (int n = 0; n <= 3; n++) {
                is(x, "bored 0 " + steps + " " + n, n < steps ? NONE : steps * (10 + 18 + 50));
                is(x, "bored " + steps + " 0 " + n, n < steps ? NONE : steps * (10 + 18 + 50));
            }
        }
        did(x, "tune 6 0");
        is(x, "bored 0 3 3", 3 * 28);
        did(x, "tune 6 99");
        is(x, "bored 0 3 3", 3 * 127);
        did(x, "tune 0 90");
        // steep no more: none is for more
        are(x, "112 112", "bored 0 4 0", "bored 0 4 3");
        for (int n : new int[] {-1, 4, LEAST, MOST}) {
            is(x, "bored 0 1 " + n, WRONG);
        }
        // as far apart as can be
        GentleRoad far = land("land 2 2;row 0 99;row 99 99;rise 9;bore 99");
        are(far, "-1 " + (14 + 9 * 99 + 99), "bored 0 3 0", "bored 0 3 1");
        // water is not bored, nor what lies between two wet ones
        did(far, "flood 1 true", "flood 2 true");
        is(far, "bored 0 3 3", NONE);
        did(far, "flood 2 false", "flood 3 true");
        is(far, "bored 0 3 3", NONE);
        // bends must be able to be, though steps need not
        GentleRoad bend = land("land 3 2;row 0 30 0;row 0 0 60;wet 3;wet 4;bend 0");
        is(bend, "bored 0 5 3", NONE);
        did(bend, "tune 1 1");
        is(bend, "bored 0 5 3", 10 + 60 + 50 + 14 + 60 + 50 + 1);
        // four bands, each too high for the one before: three bores, from one end of the greatest land to the other
        GentleRoad bands = bands();
        are(bands, "-1 -1 -1 " + (7 * 10 + 14 + 7 * 10), "bored 0 80 0", "bored 0 80 1", "bored 0 80 2", "bored 0 80 3");
        are(bands, "-1 " + (7 * 10 + 14 + 7 * 10), "bored 80 0 2", "bored 80 0 3");
        GentleRoad halves = halves();
        are(halves, "-1 154 154 154", "bored 0 80 0", "bored 0 80 1", "bored 0 80 2", "bored 0 80 3");
        corners();
        // once through is less than round, twice is less than once
        GentleRoad hill = land("land 3 3;row 0 50 0;row 0 50 0;row 0 0 0;bend 4;turn 0;rise 0;bore 13");
        are(hill, "48 48 46 46", "bored 0 2 0", "bored 0 2 1", "bored 0 2 2", "bored 0 2 3");
        did(hill, "tune 6 14");
        are(hill, "48 48 48 48", "bored 0 2 0", "bored 0 2 1", "bored 0 2 2", "bored 0 2 3");
    }

    private static GentleRoad bands() {
        return terraces(90, 90, 90, 60, 60, 30, 30, 0, 0);
    }

    /** One half is too high for the other, so that nearly all can be come to by as many bores as one likes. */
    private static GentleRoad halves() {
        return terraces(50, 50, 50, 50, 0, 0, 0, 0, 0);
    }

    /** The second row is wet but for its last place, so that nothing is as far from 80 as 0 is. */
    private static GentleRoad terraces(int... rows) {
        StringBuilder text = new StringBuilder("land 9 9");
        for (int row : rows) {
            text.append(";row").append((" " + row).repeat(9));
        }
        text.append(";bend 4;turn 0;rise 0;bore 0");
        for (int place = 9; place < 17; place++) {
            text.append(";wet ").append(place);
        }
        return land(text.toString());
    }

    /** Over each corner of the greatest land: 3 straight on are steep, 1 and 2 by the corner are not. */
    private static void corners() {
        int[][] over = {{1, 0, 10}, {9, 0, 10}, {7, 8, 16}, {17, 8, 16}, {63, 72, 64}, {73, 72, 64}, {79, 80, 70}, {71, 80, 70}};
        for (int[] way : over) {
            GentleRoad x = land(level(9, 9, 90, ";bend 4"));
            did(x, "raise " + way[0] + " -90", "raise " + way[1] + " -89", "raise " + way[2] + " -87");
            for (int n = 0; n <= 3; n++) {
                is(x, "bored " + way[0] + " " + way[2] + " " + n, 10 + 2 + 14 + 4 + 3);
                is(x, "bored " + way[2] + " " + way[0] + " " + n, 10 + 2 + 14 + 4 + 3);
            }
        }
        // four steep ones, one turns at the corner alone; with one less it can be
        GentleRoad four = land(level(9, 9, 90, ";bend 0;flat 30"));
        did(four, "raise 9 -90", "raise 0 -87", "raise 1 -84", "raise 2 -81", "raise 3 -78", "raise 10 -87");
        for (int place : new int[] {10, 11, 12, 13, 4, 18, 19}) {
            did(four, "flood " + place + " true");
        }
        are(four, "-1 -1", "bored 9 3 3", "bored 3 9 3");
        did(four, "raise 9 1");
        int due = 40 + 2 * (2 + 3 + 3 + 3) + 3 * 50 + 20;
        are(four, due + " " + due + " -1 -1", "bored 9 3 3", "bored 3 9 3", "bored 9 3 2", "bored 3 9 2");
    }

    private static void meet() {
        says("MEET of three PLACES: the PLACE for which the COSTS of BEST to it from all three (0 from itself), together, are the least");
        GentleRoad x = flat(3, 3, "");
        are(x, "4 38", "meet 0 2 7 0", "meet 0 2 7 1");
        are(x, "1 20", "meet 0 1 2 0", "meet 0 1 2 1");
        are(x, "1 20", "meet 2 0 1 0", "meet 2 0 1 1");
        are(flat(2, 2, ""), "0 20", "meet 0 1 2 0", "meet 0 1 2 1");
        are(flat(2, 2, ""), "3 20", "meet 1 2 3 0", "meet 1 2 3 1");
        // bends count for each of the three ways
        are(flat(3, 3, ";turn 9;bend 4;wet 4"), "1 " + (10 + 9 + 14 + 14), "meet 8 3 1 0", "meet 8 3 1 1");
        // all three at the end of the greatest land, and at its corners
        GentleRoad most = flat(9, 9, ";bend 4;turn 0");
        are(most, "79 20 79 20", "meet 78 79 80 0", "meet 78 79 80 1", "meet 80 78 79 0", "meet 80 78 79 1");
        are(most, "40 152", "meet 0 8 76 0", "meet 0 8 76 1");
        // by GRADE as it is: 4 by 10 is steep below 40
        GentleRoad grade = land("land 3 2;row 0 4 0;row 90 90 91;rise 1;hair 20;bore 50");
        for (int at : new int[] {39, 40, 20, 50, 1, 99}) {
            did(grade, "tune 0 " + at);
            are(grade, at < 40 ? "-1 -1" : "1 28", "meet 0 1 2 0", "meet 0 1 2 1");
        }
        says(", of several the first; none, if there is no such one.");
        GentleRoad ring = flat(3, 3, ";turn 0;bend 4;wet 4");
        are(ring, "1 38", "meet 8 3 1 0", "meet 8 3 1 1");
        are(ring, "1 38", "meet 1 3 8 0", "meet 1 3 8 1");
        are(ring, "5 38", "meet 0 7 5 0", "meet 0 7 5 1");
        did(x, "flood 1 true", "flood 3 true", "flood 4 true");
        are(x, "-1 -1", "meet 0 2 8 0", "meet 0 2 8 1");
        are(x, "-1 -1", "meet 2 8 0 0", "meet 2 8 0 1");
        are(x, "-1 -1", "meet 4 2 8 0", "meet 4 2 8 1");
        is(x, "meet 2 5 8 0", 5);
        is(flat(2, 2, ";wet 0;wet 1;wet 2;wet 3"), "meet 0 1 2 0", NONE);
    }

    private static void round(GentleRoad x, Object want, int... places) {
        tellPlaces(x, places);
        same("round of " + java.util.Arrays.toString(places), ask(x, "round"), want);
        is(x, "end 1", false);
    }

    private static void round() {
        says("ROUND of a set of PLACES told as numbers on the TAPE (bytes, 2 to 6, all unlike, each a PLACE)");
        GentleRoad x = flat(9, 9, "");
        round(x, WRONG);
        round(x, WRONG, 0);
        round(x, 20, 0, 1);
        round(x, 2 * 112, 0, 80);
        round(x, WRONG, 0, 81);
        round(x, WRONG, 81, 0);
        round(x, WRONG, 0, 128);
        round(x, WRONG, 0, 255);
        round(x, 100, 0, 1, 2, 3, 4, 5);
        round(x, WRONG, 0, 1, 2, 3, 4, 5, 6);
        round(x, WRONG, 0, 1, 2, 3, 4, 5, 6, 7, 8, 9, 10, 11, 12, 13, 14, 15, 16, 17, 18, 19);
        round(x, WRONG, 5, 5);
        round(x, WRONG, 0, 1, 2, 3, 4, 0);
        round(x, WRONG, 0, 1, 2, 3, 4, 4);
        round(flat(2, 2, ""), WRONG, 0, 4);
        round(flat(2, 2, ""), 40, 0, 1, 2, 3);
        round(new GentleRoad(), WRONG, 0, 1);
        says("from the first through all others, in any order, back to the first: the least COST of BESTS together; none.");
        GentleRoad y = flat(3, 3, "");
        round(y, 80, 0, 8, 2, 6);
        round(y, 60, 0, 4, 2, 3, 1, 5);
        round(y, 60, 4, 0, 5, 1, 2, 3);
        round(y, 10 + 10 + 14, 1, 3, 4);
        // each BEST goes by itself: bends at the places told cost nothing, those between cost
        GentleRoad turn = flat(4, 2, ";turn 9;bend 4");
        round(turn, 20 + 14 + 14, 0, 2, 5);
        round(turn, 2 * (20 + 14 + 9), 0, 7);
        did(y, "flood 4 true");
        round(y, NONE, 0, 4);
        round(y, NONE, 0, 1, 2, 3, 4, 5);
        round(y, NONE, 4, 0, 1);
        // by GRADE as it is: 4 by 10 is steep below 40
        GentleRoad grade = land("land 2 2;row 0 4;row 90 90;rise 1");
        for (int at : new int[] {39, 40, 20, 50, 1, 99}) {
            did(grade, "tune 0 " + at);
            round(grade, at < 40 ? NONE : 28, 0, 1);
        }
        // there is none, if just one of them is not come to
        GentleRoad lines = land("land 3 3;row 0 1 0;row 1 0 1;row 0 1 0;bend 0;flat 0;rise 0");
        round(lines, NONE, 0, 5);
        round(lines, NONE, 0, 5, 4);
        round(lines, 14 + 10 + 10 + 20, 0, 4, 5, 2);
        round(lines, 14 + 10 + 10 + 20, 0, 5, 4, 2);
    }

    private static GentleRoad slope(int to, String more) {
        GentleRoad x = land("land 2 2;row 0 " + to + ";row 90 90;grade 99;rise 0;spoil 30" + more);
        did(x, "build 0 0 1");
        return x;
    }

    private static void ruling() {
        says("RULING of a ROAD: the least RULE by which GRADING is; none.");
        for (int depth = 0; depth <= 3; depth++) {
            for (int differ = 0; differ <= 9; differ++) {
                is(slope(differ, ";depth " + depth), "road 0 10", 10 * Math.max(0, differ - 2 * depth));
            }
            GentleRoad x = slope(9, ";depth " + depth);
            if (depth > 0) {
                did(x, "raise 1 " + 2 * depth);
            }
            is(x, "road 0 10", 90);
            did(x, "raise 1 1");
            is(x, "road 0 10", NONE);
        }
        GentleRoad across = land("land 2 2;row 0 90;row 90 13;grade 99;depth 0");
        did(across, "build 0 0 3");
        is(across, "road 0 10", 93);
        did(across, "raise 3 1");
        is(across, "road 0 10", NONE);
        // offsets that are do not matter, and SPOIL does
        GentleRoad x = slope(1, ";depth 1");
        did(x, "level 0 0");
        is(x, "road 0 10", 0);
        did(x, "tune 10 0");
        is(x, "road 0 10", 10);
        offsetsAre(x, 0, "0 -1");
    }

    private static void ofARoad() {
        says("Of a ROAD: LONG, CLIMB from its first PLACE on, COST (by now, BROKEN or not: of its STEPS, of BENDS as above)");
        // 0 up to 1 (2), down to 2 (1), down across to 7 (1)
        GentleRoad x = land("land 4 2;row 0 2 1 90;row 90 90 90 0;turn 5;rise 3");
        did(x, "build 0 0 7", "build 1 7 0");
        are(x, "34 2 51 2", "road 0 1", "road 0 2", "road 0 3", "road 0 14");
        are(x, "34 2 51 2", "road 1 1", "road 1 2", "road 1 3", "road 1 14");
        did(x, "raise 7 50", "flood 1 true");
        are(x, "0 34 51 1", "road 0 5", "road 0 1", "road 0 2", "road 0 14");
        are(x, "0 34 1 51", "road 1 5", "road 1 1", "road 1 2", "road 1 14");
        is(x, "road 0 3", 10 + 6 + 10 + 3 + 14 + 3 * 49 + 5);
        did(x, "tune 3 0", "tune 4 0");
        is(x, "road 0 3", 34);
        did(x, "tune 1 0", "tune 5 99");
        are(x, "133 2", "road 0 3", "road 0 6");
        says("HAIRPINS: BENDS that are more than BEND");
        is(x, "road 0 4", 1);
        did(x, "tune 1 1");
        is(x, "road 0 4", 0);
        GentleRoad y = flat(3, 2, ";bend 4;turn 0;wet 1");
        did(y, "build 0 0 2");
        placesAre(y, 0, "0 4 2");
        for (int bend = 0; bend <= 4; bend++) {
            did(y, "tune 1 " + bend);
            is(y, "road 0 4", bend < 2 ? 1 : 0);
        }
    }

    private static void steepest() {
        says("STEEPEST: the STEP whose LEVELS differ the most by LONG (as a fraction; of several the first): its number (0 on).");
        // 5 by 10, then 7 by 14
        GentleRoad x = land("land 3 2;row 0 5 99;row 99 99 12;grade 50;rise 0;depth 1");
        did(x, "build 0 0 5", "build 1 5 0");
        placesAre(x, 0, "0 1 5");
        are(x, "0 0", "road 0 7", "road 1 7");
        did(x, "raise 5 1");
        are(x, "1 0", "road 0 7", "road 1 7");
        did(x, "raise 5 -2");
        are(x, "0 1", "road 0 7", "road 1 7");
        did(x, "raise 5 -6");
        are(x, "0 1", "road 0 7", "road 1 7");
        // by levels: 5 to 5 by heights, then 4 and 5 by offsets
        GentleRoad y = land("land 3 2;row 0 5 0;row 99 99 99;grade 50;rise 0;dig 0;fill 9;spoil 1");
        did(y, "build 0 0 2");
        is(y, "road 0 7", 0);
        did(y, "level 0 50");
        offsetsAre(y, 0, "0 -1 0");
        is(y, "road 0 7", 0);
        did(y, "raise 1 1", "raise 0 1");
        // levels 1 5 0
        is(y, "road 0 7", 1);
        // even all along: the first
        GentleRoad even = flat(4, 2, "");
        did(even, "build 0 0 3");
        is(even, "road 0 7", 0);
        did(even, "raise 3 1");
        is(even, "road 0 7", 2);
    }

    private static void water() {
        says("RUN of a PLACE: of the PLACES beside it (by all HEADINGS, WET ones, too) the one of the least HEIGHT, if that is less than its own (of several the first by HEADING)");
        for (int heading = 0; heading < 8; heading++) {
            int[] heights = heights(50);
            heights[AROUND[heading]] = 49;
            GentleRoad x = nine(heights, ";wet " + AROUND[heading]);
            is(x, "water 4 0", AROUND[heading]);
            is(x, "water " + AROUND[heading] + " 0", NONE);
            // of like ones the first by heading, and a lesser one ahead of it
            for (int later = heading + 1; later < 8; later++) {
                heights[AROUND[later]] = 49;
            }
            GentleRoad y = nine(heights, "");
            is(y, "water 4 0", AROUND[heading]);
            did(y, "raise " + AROUND[7] + " -1");
            is(y, "water 4 0", AROUND[7]);
        }
        says("; none: it is a SINK.");
        GentleRoad even = flat(9, 9, "");
        are(even, "-1 -1 -1 81", "water 0 0", "water 40 0", "water 80 0", "count 5");
        did(even, "raise 40 1");
        are(even, "31 80", "water 40 0", "count 5");
        is(land("land 2 2;row 0 1;row 1 1"), "count 5", 1);
        is(land("land 2 2;row 0 1;row 1 1;wet 0"), "count 5", 1);
        is(land("land 2 2;row 0 0;row 1 1"), "count 5", 2);
        says("CATCH of a PLACE: from how many PLACES one comes to it by RUNS, one behind another, itself, too.");
        GentleRoad all = land(funnel());
        are(all, "81 1 1", "water 0 1", "water 80 1", "water 8 1");
        are(flat(2, 2, ""), "1 1 1 1", "water 0 1", "water 1 1", "water 2 1", "water 3 1");
        GentleRoad row = land("land 4 2;row 0 1 2 3;row 9 9 9 9");
        // 4 5 to 0, 6 to 1, 7 to 2
        are(row, "8 5 3 1 1 1", "water 0 1", "water 1 1", "water 2 1", "water 3 1", "water 4 1", "water 7 1");
    }

    /** Each place but the first has a lower one beside it towards the first. */
    private static String funnel() {
        StringBuilder text = new StringBuilder("land 9 9");
        for (int row = 0; row < 9; row++) {
            text.append(";row");
            for (int column = 0; column < 9; column++) {
                text.append(' ').append(Math.max(row, column));
            }
        }
        return text.toString();
    }

    private static void spill() {
        says("SPILL of a PLACE: of all rows of PLACES, each beside the next one, from it to one at the edge (the first or last row or column; itself, too), the least that the greatest HEIGHT of one can be.");
        for (int heading = 0; heading < 8; heading++) {
            int[] heights = heights(8);
            heights[AROUND[heading]] = 3;
            heights[4] = 0;
            GentleRoad x = nine(heights, ";wet " + AROUND[heading]);
            is(x, "water 4 2", 3);
            did(x, "raise 4 5");
            is(x, "water 4 2", 5);
            is(x, "water " + AROUND[heading] + " 2", 3);
            is(x, "water " + AROUND[(heading + 1) % 8] + " 2", 8);
        }
        GentleRoad x = land("land 5 5;row 9 9 9 9 9;row 9 4 4 4 9;row 9 4 1 6 9;row 9 4 4 4 7;row 9 9 9 9 9");
        are(x, "7 7 7 7 9", "water 12 2", "water 18 2", "water 13 2", "water 19 2", "water 0 2");
        did(x, "raise 19 -5");
        are(x, "4 4 6 2 4", "water 12 2", "water 18 2", "water 13 2", "water 19 2", "water 6 2");
        did(x, "raise 12 98");
        is(x, "water 12 2", 99);
        // a low place at the edge is not beside the middle one, wherever it lies: the ring between must be crossed
        for (int place = 0; place < 25; place++) {
            int row = place / 5;
            int column = place % 5;
            if (row == 0 || row == 4 || column == 0 || column == 4) {
                GentleRoad ring = land(level(5, 5, 50, ""));
                did(ring, "raise 12 -50", "raise " + place + " -49");
                are(ring, "50 1", "water 12 2", "water " + place + " 2");
                int between = Math.max(1, Math.min(3, row)) * 5 + Math.max(1, Math.min(3, column));
                did(ring, "raise " + between + " -48");
                is(ring, "water 12 2", 2);
            }
        }
        GentleRoad high = nine(heights(99), "");
        did(high, "raise 4 -99");
        are(high, "99 99", "water 4 2", "water 0 2");
        is(nine(heights(0), ""), "water 4 2", 0);
        are(land("land 2 2;row 0 99;row 5 6"), "0 99 5 6", "water 0 2", "water 1 2", "water 2 2", "water 3 2");
        // the long way round is lower: a ditch of 1 winds from the middle out to 80
        GentleRoad ditch = land(level(9, 9, 60, ""));
        for (int place : new int[] {40, 31, 22, 23, 33, 43, 52, 60, 69, 79}) {
            did(ditch, "raise " + place + " -59");
        }
        are(ditch, "1 1", "water 40 2", "water 31 2");
        did(ditch, "raise 60 10");
        is(ditch, "water 40 2", 11);
        did(ditch, "raise 61 -57");
        is(ditch, "water 40 2", 3);
        is(ditch, "water 43 2", 3);
        is(ditch, "water 69 2", 1);
    }

    private static void bridges() {
        says("BRIDGES of a ROAD and N: its PLACES (one that it comes to twice once) whose CATCH is N at least: how many.");
        GentleRoad x = land("land 4 2;row 0 1 2 3;row 9 9 9 9");
        did(x, "build 0 0 3");
        are(x, "4 3 3 2 2 1 1 0", "bridges 0 1", "bridges 0 2", "bridges 0 3", "bridges 0 4", "bridges 0 5", "bridges 0 6",
                "bridges 0 8", "bridges 0 9");
        GentleRoad all = land(funnel());
        did(all, "build 3 1 0", "build 2 79 80");
        are(all, "2 1 1 0 2", "bridges 3 1", "bridges 3 80", "bridges 3 81", "bridges 2 81", "bridges 2 1");
        for (int n : new int[] {0, 82, -1, LEAST, MOST}) {
            is(all, "bridges 3 " + n, WRONG);
        }
        GentleRoad again = twice();
        did(again, "build 0 4 13");
        are(again, "8 7", "road 0 0", "bridges 0 1");
    }

    private static void joins() {
        says("JOINS of a PLACE and a ROAD: the PLACE of the ROAD to which BEST by COST is the least (0 for one on it), of several the first in the ROAD; none.");
        GentleRoad x = flat(4, 3, ";bend 2");
        did(x, "build 1 0 3", "build 2 3 0");
        are(x, "1 10", "joins 5 1 0", "joins 5 1 1");
        are(x, "0 0 3 0", "joins 0 1 0", "joins 0 1 1", "joins 3 1 0", "joins 3 1 1");
        are(x, "2 0", "joins 2 1 0", "joins 2 1 1");
        did(x, "flood 1 true");
        // 0 and 2 are 14 from 5 each
        are(x, "0 14 2 14", "joins 5 1 0", "joins 5 1 1", "joins 5 2 0", "joins 5 2 1");
        are(x, "1 0", "joins 1 1 0", "joins 1 1 1");
        did(x, "flood 5 true");
        are(x, "-1 -1", "joins 5 1 0", "joins 5 1 1");
        // from 4 to 0 alone, as 5 is wet: 4 to 0 is 10
        are(x, "0 10", "joins 4 1 0", "joins 4 1 1");
        did(x, "flood 0 true", "flood 2 true", "flood 3 true");
        are(x, "-1 -1 0 0", "joins 4 1 0", "joins 4 1 1", "joins 0 1 0", "joins 0 1 1");
        // by GRADE as it is: 4 by 10 is steep below 40, by 14 below 29
        GentleRoad grade = land("land 3 2;row 0 0 90;row 4 90 90;rise 1");
        did(grade, "build 3 0 1");
        String[] due = {"-1 -1", "1 18", "1 18", "0 14", "-1 -1", "0 14"};
        int[] grades = {28, 29, 39, 40, 20, 50};
        for (int k = 0; k < grades.length; k++) {
            did(grade, "tune 0 " + grades[k]);
            are(grade, due[k], "joins 3 3 0", "joins 3 3 1");
        }
        // by cost, not by long: over the hill it is dear
        GentleRoad hill = land("land 3 2;row 0 0 0;row 2 0 0;rise 9");
        did(hill, "build 0 0 2");
        are(hill, "0 28 1 10", "joins 3 0 0", "joins 3 0 1", "joins 4 0 0", "joins 4 0 1");
    }

    private static void spare() {
        says("SPARE of two PLACES: of the STEPS of BEST by COST the one without which (to and fro, as if it could not be) BEST is the most, no WAY being more than any, of several the first; none without a WAY.");
        GentleRoad x = flat(3, 3, "");
        wayIs(x, 3, 5, 0, "3 4 5");
        // without either step a hairpin or two more bends: 14 and 14 and 20
        are(x, "0 48", "spare 3 5 0", "spare 3 5 1");
        GentleRoad narrow = flat(4, 2, ";wet 6;wet 7");
        wayIs(narrow, 4, 3, 0, "4 1 2 3");
        are(narrow, "2 -1", "spare 4 3 0", "spare 4 3 1");
        wayIs(narrow, 3, 4, 0, "3 2 1 4");
        are(narrow, "0 -1", "spare 3 4 0", "spare 3 4 1");
        are(narrow, "-1 -1 -1 -1", "spare 4 7 0", "spare 4 7 1", "spare 7 4 0", "spare 7 6 1");
        are(narrow, "0 -1", "spare 2 3 0", "spare 2 3 1");
        // one step alone: from 0 to 1 without it over 4, or 5
        are(flat(2, 2, ""), "0 " + (14 + 20 + 10), "spare 0 1 0", "spare 0 1 1");
        are(flat(2, 2, ";bend 4"), "0 " + (10 + 14 + 3), "spare 0 1 0", "spare 0 1 1");
        // each is missing by itself: without 0 4 by 3, without 4 2 by 5, which comes to as much; without both it were 80
        GentleRoad dent = flat(3, 2, ";wet 1");
        wayIs(dent, 0, 2, 0, "0 4 2");
        are(dent, "0 55 0 55", "spare 0 2 0", "spare 0 2 1", "spare 2 0 0", "spare 2 0 1");
        is(dent, "best 0 2 0", 48);
        // without 8 4 or 4 1 by 5, without 1 3 or 3 6 back from 1 over 4, a step that is missing no more: all are 70
        GentleRoad turned = land("land 3 3;row 1 0 0;row 0 0 0;row 0 3 0;wet 2");
        wayIs(turned, 8, 6, 0, "8 4 1 3 6");
        are(turned, "70 0 70", "best 8 6 0", "spare 8 6 0", "spare 8 6 1");
        // what was asked before does not matter: after one that is much, one that is none and one that is less
        are(dent, "-1 -1 0 44", "spare 0 1 0", "spare 0 1 1", "spare 0 3 0", "spare 0 3 1");
        are(dent, "0 55 -1", "spare 0 2 0", "spare 0 2 1", "spare 1 0 1");
        // a corridor: without each there is none, so the first
        GentleRoad row = flat(5, 2, ";wet 5;wet 6;wet 7;wet 8;wet 9");
        are(row, "0 -1 0 -1", "spare 0 4 0", "spare 0 4 1", "spare 4 1 0", "spare 4 1 1");
        // a step that is gone both to and fro is not there at all: at 0 one turns round
        GentleRoad again = twice();
        are(again, "0 -1", "spare 4 13 0", "spare 4 13 1");
        // the second is the most: beside the first there is a way for little more
        GentleRoad mixed = flat(4, 3, ";wet 6;wet 7;wet 10");
        wayIs(mixed, 0, 3, 0, "0 1 2 3");
        are(mixed, "2 -1", "spare 0 3 0", "spare 0 3 1");
        is(mixed, "count 4", 0);
        wayIs(mixed, 0, 3, 0, "0 1 2 3");
    }

    private static void stages() {
        says("STAGES of a ROAD: it in n parts (1 to 6) of some STEPS each, one behind another: the least that the greatest LONG of a part can be; none, if it has fewer STEPS.");
        GentleRoad x = flat(9, 2, "");
        for (int steps = 1; steps <= 6; steps++) {
            did(x, "build 0 0 " + steps);
            for (int n = 1; n <= 6; n++) {
                int longest = (steps + n - 1) / n;
                is(x, "stages 0 " + n, n > steps ? NONE : 10 * longest);
            }
        }
        for (int n : new int[] {0, 7, -1, LEAST, MOST}) {
            is(x, "stages 0 " + n, WRONG);
        }
        // seven of 10, then one of 14
        did(x, "build 1 0 17");
        placesAre(x, 1, "0 1 2 3 4 5 6 7 17");
        are(x, "84 44 30 24 20 20", "stages 1 1", "stages 1 2", "stages 1 3", "stages 1 4", "stages 1 5", "stages 1 6");
        did(x, "build 2 0 10");
        are(x, "14 -1", "stages 2 1", "stages 2 2");
        did(x, "build 2 0 11");
        are(x, "24 14 -1", "stages 2 1", "stages 2 2", "stages 2 3");
        GentleRoad longest = serpentine("");
        did(longest, "build 3 0 79");
        is(longest, "stages 3 1", 8 * 14 + 31 * 10);
        is(longest, "road 3 1", 8 * 14 + 31 * 10);
    }

    private static void common() {
        says("COMMON of two ROADS: STEPS (to and fro alike) that both have: how many unlike ones.");
        GentleRoad x = flat(4, 3, "");
        did(x, "build 0 0 3", "build 1 3 1", "build 2 4 7", "build 3 0 3");
        are(x, "2 2 0 0 3 3 2", "common 0 1", "common 1 0", "common 0 2", "common 2 0", "common 0 3", "common 3 0", "common 3 1");
        // a place in common is no step in common
        did(x, "build 1 1 9");
        placesAre(x, 1, "1 5 9");
        are(x, "0 0", "common 1 2", "common 1 0");
        // a step that a road has twice is one
        GentleRoad again = twice();
        did(again, "build 0 4 13", "build 1 0 4");
        are(again, "4 4", "common 0 1", "common 1 0");
        did(again, "build 2 4 13");
        are(again, "6 6", "common 0 2", "common 2 0");
        // by whichever heading: one step to and fro, and none of a road that goes elsewhere
        for (int heading = 0; heading < 8; heading++) {
            GentleRoad one = flat(3, 3, "");
            int next = AROUND[heading];
            int far = AROUND[(heading + 4) % 8];
            did(one, "build 0 4 " + next, "build 1 " + next + " 4", "build 2 " + far + " 4", "build 3 4 " + far);
            are(one, "1 1 0 0 0 0 1", "common 0 1", "common 1 0", "common 0 2", "common 2 0", "common 0 3", "common 1 3",
                    "common 2 3");
        }
        // all of them, of a road that winds: down, over, up
        GentleRoad winding = land("land 2 2;row 3 0;row 2 1;bend 2");
        did(winding, "build 0 0 1", "build 1 0 1", "build 2 1 0");
        placesAre(winding, 0, "0 2 3 1");
        are(winding, "3 3 3", "common 0 1", "common 0 2", "common 2 1");
        // broken or not
        did(x, "flood 0 true", "flood 1 true", "flood 2 true");
        is(x, "common 0 3", 3);
    }

    private static void image() {
        says("THE IMAGE (one) of all may be kept, and gone back to (but for the TAPE, fault() and THE IMAGE itself).");
        GentleRoad x = land("land 3 2;row 0 1 0;row 90 90 90;wet 5;hair 7");
        did(x, "build 1 0 2", "level 1 0", "image", "level 1 99", "build 2 2 0", "build 1 0 1", "flood 5 false", "raise 0 1",
                "tune 5 8");
        tell(x, "land 2 1");
        is(x, "land", WRONG);
        did(x, "feed 0 0 0 0 0", "end 9");
        is(x, "back", true);
        are(x, "7 0 1 2 0", "term 5", "place 0 0", "place 5 1", "count 3", "count 4");
        placesAre(x, 1, "0 1 2");
        offsetsAre(x, 1, "0 -1 0");
        are(x, "7 false true", "fault", "end 10", "end 9");
        // the image itself stays: it can be gone back to again, over another land, too
        did(x, "end 0");
        tell(x, level(9, 9, 5, ";wet 80"));
        did(x, "land", "build 0 0 8", "tune 5 99");
        are(x, "true 3 2 1 2 7", "back", "count 0", "count 1", "count 2", "count 3", "term 5");
        placesAre(x, 1, "0 1 2");
        is(x, "best 0 2 0", 24);
        is(x, "place 6 0", NO_PLACE);
        // one alone: a later one takes its place
        did(x, "tune 5 11", "image", "tune 5 12", "image", "tune 5 13", "back");
        is(x, "term 5", 12);
        // without a land
        GentleRoad y = new GentleRoad();
        did(y, "tune 5 1", "image");
        is(y, "count 4", 1);
        tell(y, FOUR);
        did(y, "land", "build 0 0 3");
        are(y, "true 0 0 0 1 0", "back", "count 0", "count 1", "count 3", "term 5", "count 4");
        is(y, "place 0 0", NO_PLACE);
    }

    /** The promises' own tests have every one of these calls; here is what all have in common. */
    private static void thrown() {
        says("Of several exceptions the one told first is thrown");
        GentleRoad x = flat(2, 2, "");
        are(x, NO_PLACE + " " + NO_SUCH + " " + WRONG, "best 4 4 9", "best 0 0 9", "best 0 0 0");
        are(x, NO_PLACE + " " + WRONG + " " + CANNOT, "level 4 100", "level 0 100", "level 0 0");
        are(x, NO_PLACE + " " + NO_SUCH + " " + CANNOT, "joins 4 0 9", "joins 0 0 9", "joins 0 0 0");
        says("; a call that throws changes nothing but the TAPE, where it is used up, and fault(), where a text is read.");
        did(x, "feed 0 0 0 0 0");
        is(x, "round", WRONG);
        are(x, "false -1", "end 1", "fault");
        did(x, "feed 0 0 0 0 0");
        is(x, "land", WRONG);
        are(x, "false 0", "end 1", "fault");
        did(x, "feed 0 0 0 0 0");
        is(x, "best 0 0 0", WRONG);
        are(x, "0 true", "fault", "end 20");
        says("IndexOutOfBoundsException: there is no such PLACE, ROAD (0 to 3).");
        are(x, NO_PLACE + " " + NO_PLACE, "reach 4", "drop 4");
        says("IllegalArgumentException: a number is none, two PLACES or ROADS are one, a text is wrong.");
        are(x, WRONG + " " + WRONG + " " + WRONG + " " + WRONG, "bored 0 1 4", "gate 1 1", "common 1 1", "land");
        says("IllegalStateException: it cannot be; a ROAD is not BUILT.");
        did(x, "flood 3 true");
        are(x, CANNOT + " " + CANNOT, "build 0 0 3", "drop 0");
    }
}

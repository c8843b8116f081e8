/** Promises 11, 12, 15 to 22, 28 and 29: ways and what is asked of them. */
public final class WaysTest {
    private WaysTest() {
    }

    public static void main(String[] args) {
        promise11Build();
        promise11BuildOfForty();
        promise12Drop();
        promise15BestByKinds();
        promise15Bends();
        promise15Throws();
        promise16Along();
        promise17Reach();
        promise18Grade();
        promise19Gate();
        promise20Bored();
        promise21Meet();
        promise22Round();
        promise28Joins();
        promise29Spare();
        Due.close();
    }

    private static GentleRoad flat(int wide, int deep, String more) {
        return Due.land(Due.level(wide, deep, 0, more));
    }

    private static void promise11Build() {
        GentleRoad x = flat(3, 3, ";depth 2");
        Due.same("11: cost", x.build(2, 0, 5), 25);
        Due.same("11: the first of two", Due.places(x, 2), "0 1 5");
        Due.same("11: built", x.count(3), 4);
        x.raise(1, 2);
        x.level(2, 0);
        Due.same("11: offsets", Due.offsets(x, 2), "0 -2 0");
        Due.same("11: in place of what it was", x.build(2, 6, 8), 20);
        Due.same("11: places", Due.places(x, 2), "6 7 8");
        Due.same("11: offsets are 0", Due.offsets(x, 2), "0 0 0");
        x.flood(7, true);
        x.flood(4, true);
        x.flood(1, true);
        Due.cannot("11: no way", () -> x.build(2, 0, 2));
        Due.same("11: the road stays", Due.places(x, 2), "6 7 8");
        Due.same("11: no act", x.count(4), 7);
        Due.noPlace("11: road is told first", () -> x.build(4, 0, 0));
        Due.noPlace("11: road", () -> x.build(-1, 0, 1));
        Due.noPlace("11: place", () -> x.build(0, 9, 9));
        Due.noPlace("11: place", () -> x.build(0, 0, -1));
        Due.wrongNumber("11: both are one", () -> x.build(0, 1, 1));
    }

    /** Rows 1, 3, 5, 7 are wet but for one end, so that one goes to and fro. */
    private static GentleRoad serpentine() {
        GentleRoad x = flat(9, 9, ";bend 4;turn 0");
        for (int row = 1; row < 9; row += 2) {
            for (int column = 0; column < 9; column++) {
                if (column != (row % 4 == 1 ? 8 : 0)) {
                    x.flood(row * 9 + column, true);
                }
            }
        }
        return x;
    }

    private static void promise11BuildOfForty() {
        GentleRoad x = serpentine();
        // 0 to 7, over 17 to 25, back to 19, over 27 to 37, on to 43, over 53 to 61, back to 55, over 63 to 73
        Due.same("11: 40 steps to 80", x.best(0, 80, 3), 40);
        Due.same("11: 39 steps to 79", x.best(0, 79, 3), 39);
        Due.cannot("11: 41 places are too many", () -> x.build(0, 0, 80));
        Due.same("11: none is built", x.count(3), 0);
        Due.same("11: 40 places are not", x.build(0, 0, 79), 8 * 14 + 31 * 10);
        Due.same("11: 40 places", x.road(0, 0), 40);
        Due.same("11: the last", x.at(0, 39, false), 79);
        Due.same("11: none behind", x.at(0, 40, false), -1);
        Due.same("11: but there is a way", x.best(0, 80, 0), 8 * 14 + 32 * 10);
        Due.same("11: the last of it", x.along(0, 80, 0, 40), 80);
    }

    private static void promise12Drop() {
        GentleRoad x = flat(3, 2, "");
        x.build(1, 0, 2);
        Due.cannot("12: not built", () -> x.drop(0));
        Due.same("12: three places", x.drop(1), 3);
        Due.same("12: built no more", x.count(3), 0);
        Due.cannot("12: not built", () -> x.drop(1));
        Due.noPlace("12: road", () -> x.drop(4));
        Due.noPlace("12: road", () -> x.drop(-1));
        x.build(1, 1, 2);
        x.build(1, 0, 1);
        Due.same("12: two places", x.drop(1), 2);
    }

    private static void promise15BestByKinds() {
        GentleRoad x = Due.land("land 4 3;row 1 4 4 1;row 1 9 9 1;row 1 1 1 1;grade 30;rise 3;turn 2;bend 2;flat 0");
        // straight over the hill: 3 up, even, 3 down; round it 0 4 9 10 7 3
        Due.same("15: over the hill", x.best(0, 3, 0), 10 + 9 + 10 + 10 + 9);
        Due.same("15: over the hill", Due.way(x, 0, 3, 0), "0 1 2 3");
        Due.same("15: long", x.best(0, 3, 1), 30);
        Due.same("15: climb", x.best(0, 3, 2), 0);
        Due.same("15: least climb, then fewest steps", Due.way(x, 0, 3, 2), "0 4 9 10 7 3");
        Due.same("15: steps", x.best(0, 3, 3), 3);
        x.tune(3, 9);
        Due.same("15: round the hill", x.best(0, 3, 0), 10 + 14 + 10 + 14 + 10 + 2 * 4);
        x.build(0, 0, 3);
        // half of each step, but not of bends
        Due.same("15: used", x.best(0, 3, 4), 5 + 7 + 5 + 7 + 5 + 2 * 4);
        Due.same("15: used fro", x.best(3, 0, 4), 5 + 7 + 5 + 7 + 5 + 2 * 4);
        x.tune(3, 1);
        x.build(0, 1, 0);
        Due.same("15: the half rounded down", x.best(0, 1, 4), 6);
        x.raise(1, -2);
        Due.same("15: as the land lies now", x.best(0, 1, 4), 5);
        x.drop(0);
        Due.same("15: not built, not used", x.best(0, 1, 4), 11);
        GentleRoad wash = Due.land("land 3 3;row 5 5 5;row 5 4 5;row 5 5 5;rise 0;flat 9;bend 4;turn 0");
        Due.same("15: all runs to the middle", wash.water(4, 1), 9);
        Due.same("15: washed", wash.best(0, 4, 5), 14 + 9);
        Due.same("15: from there", wash.best(4, 0, 5), 14 + 1);
        Due.same("15: over the middle", wash.best(3, 5, 5), 20 + 9 + 1);
        wash.raise(4, -1);
        wash.tune(0, 20);
        Due.same("15: washed", wash.best(1, 7, 5), 20 + 9 + 1);
        GentleRoad wider = Due.land("land 5 3;row 5 5 5 5 5;row 5 5 4 5 5;row 5 5 5 5 5;rise 0;turn 0");
        // through the middle 40 and 1 + 9 + 1 + 1; over 1 2 8: 14 + 10 + 10 + 14 and 4
        Due.same("15: the catch counts where it leads", wider.best(5, 9, 5), 14 + 10 + 10 + 14 + 4);
        Due.same("15: by cost through it", wider.best(5, 9, 0), 40);
    }

    private static void promise15Bends() {
        GentleRoad x = Due.land("land 3 2;row 0 0 9;row 0 0 0;bend 0;flat 0");
        Due.same("15: a hairpin where it is flat", x.best(0, 5, 0), 10 + 20 + 10 + 10);
        Due.same("15: a hairpin where it is flat", Due.way(x, 0, 5, 0), "0 3 4 5");
        x.tune(2, 9);
        Due.same("15: flat enough elsewhere", Due.way(x, 0, 5, 0), "0 1 5");
        Due.same("15: flat enough elsewhere", x.best(0, 5, 0), 10 + 20 + 14);
        x.tune(1, 1);
        Due.same("15: a bend", x.best(0, 5, 0), 10 + 1 + 14);
        x.tune(4, 9);
        x.tune(5, 0);
        // a bend within BEND costs TURN, though a hairpin would cost less
        Due.same("15: a dear bend", x.best(0, 5, 0), 10 + 0 + 10 + 0 + 10);
        Due.same("15: a dear bend", Due.way(x, 0, 5, 0), "0 1 4 5");
        GentleRoad back = Due.land("land 3 2;row 0 0 0;row 9 9 9;bend 0;flat 9;wet 3;wet 4;wet 5");
        Due.same("15: a corridor", back.best(0, 2, 0), 20);
        GentleRoad turn = Due.land("land 3 3;row 0 1 0;row 9 0 9;row 9 0 9;bend 1;flat 1;hair 7;grade 10");
        // from 1 of 1 down to 4 and 7, to 0 and 2; 0 is not flat (9), nor 4
        Due.same("15: from 0 south-east", turn.best(0, 4, 0), 14);
        Due.same("15: from 0 on to 7 by a bend at 4", turn.best(0, 7, 0), 14 + 1 + 10);
        Due.same("15: 0 to 2 straight", turn.best(0, 2, 0), 20 + 2 * 2);
        Due.same("15: 4 steps", turn.best(1, 7, 3), 2);
    }

    private static void promise15Throws() {
        GentleRoad x = flat(3, 2, ";wet 2");
        Due.same("15: to a wet place", x.best(0, 2, 0), -1);
        Due.same("15: from a wet place", x.best(2, 0, 0), -1);
        Due.noPlace("15: place is told first", () -> x.best(6, 6, 7));
        Due.noPlace("15: place", () -> x.best(0, 6, 0));
        Due.noPlace("15: place", () -> x.best(-1, 0, 0));
        Due.noSuch("15: kind is told ahead of one", () -> x.best(0, 0, 6));
        Due.noSuch("15: kind", () -> x.best(0, 1, -1));
        Due.wrongNumber("15: both are one", () -> x.best(1, 1, 0));
    }

    private static void promise16Along() {
        GentleRoad x = flat(3, 3, "");
        Due.same("16: the first", x.along(8, 0, 0, 0), 8);
        Due.same("16: the last", x.along(8, 0, 0, 2), 0);
        Due.same("16: none behind", x.along(8, 0, 0, 3), -1);
        Due.same("16: none ahead", x.along(8, 0, 0, -1), -1);
        Due.same("16: far", x.along(8, 0, 0, Integer.MAX_VALUE), -1);
        Due.same("16: the lesser place first", Due.way(x, 5, 0, 0), "5 1 0");
        Due.same("16: of ways by steps", Due.way(x, 3, 5, 3), "3 1 5");
        Due.same("16: of ways without climb", Due.way(x, 3, 5, 2), "3 1 5");
        Due.same("16: by long straight on", Due.way(x, 3, 5, 1), "3 4 5");
        Due.same("16: at the first unlike one", Due.way(flat(4, 4, ""), 0, 14, 1), "0 4 9 14");
        x.flood(4, true);
        x.flood(1, true);
        x.flood(3, true);
        Due.same("16: without a way", x.along(0, 8, 0, 0), -1);
        Due.noPlace("16: place", () -> x.along(0, 9, 9, 0));
        Due.noSuch("16: kind", () -> x.along(0, 0, 6, 0));
        Due.wrongNumber("16: both are one", () -> x.along(0, 0, 5, 0));
    }

    private static void promise17Reach() {
        GentleRoad x = Due.land("land 3 3;row 0 1 0;row 1 0 1;row 0 1 0;bend 0;flat 0;grade 99");
        Due.same("17: straight on alone", x.reach(0), 6);
        Due.same("17: from the middle", x.reach(4), 8);
        Due.same("17: from a side", x.reach(1), 6);
        x.tune(1, 1);
        Due.same("17: with bends", x.reach(0), 8);
        x.tune(1, 0);
        x.tune(2, 1);
        Due.same("17: with hairpins", x.reach(0), 8);
        x.flood(0, true);
        Due.same("17: from a wet one", x.reach(0), 0);
        Due.same("17: all but the wet one", x.reach(8), 7);
        Due.noPlace("17: place", () -> x.reach(9));
        Due.noPlace("17: place", () -> x.reach(-1));
    }

    private static void promise18Grade() {
        GentleRoad x = Due.land("land 2 2;row 0 3;row 9 9");
        Due.same("18: direct", x.grade(0, 1), 30);
        Due.same("18: across", x.grade(0, 3), 65);
        x.tune(1, 2);
        Due.same("18: by a bend", x.grade(0, 3), 60);
        Due.same("18: fro", x.grade(3, 0), 60);
        Due.same("18: even", x.grade(2, 3), 1);
        x.raise(0, 99);
        Due.same("18: none", x.grade(0, 3), -1);
        GentleRoad most = Due.land("land 2 2;row 0 99;row 13 99");
        Due.same("18: by 99 just 9 straight", most.grade(0, 2), -1);
        most.raise(2, -4);
        Due.same("18: 9 straight", most.grade(0, 2), 90);
        most.raise(3, -86);
        Due.same("18: 13 across", most.grade(0, 3), 93);
        most.flood(3, true);
        Due.same("18: wet", most.grade(0, 3), -1);
        Due.same("18: the term stays", most.term(0), 20);
        Due.same("18: no act", most.count(4), 3);
        Due.noPlace("18: place", () -> most.grade(4, 4));
        Due.wrongNumber("18: both are one", () -> most.grade(1, 1));
    }

    private static void promise19Gate() {
        GentleRoad x = flat(3, 3, ";wet 1;wet 7");
        Due.same("19: the middle", x.gate(3, 5), 4);
        Due.same("19: 3, as then 0 has no step across", x.gate(0, 2), 3);
        Due.same("19: none beside", x.gate(0, 3), -1);
        Due.same("19: one of both is none", x.gate(3, 4), -1);
        x.flood(7, false);
        Due.same("19: none", x.gate(3, 5), -1);
        Due.same("19: wet ones stay as they are", x.count(2), 1);
        x.flood(4, true);
        x.flood(7, true);
        Due.same("19: no way", x.gate(0, 2), -1);
        // if 2 were wet, both beside the step across were
        Due.same("19: beside a step across", flat(2, 2, ";wet 1").gate(0, 3), 2);
        Due.same("19: none", flat(2, 2, "").gate(0, 3), -1);
        Due.same("19: the first of several", flat(4, 2, ";wet 4;wet 5;wet 6;wet 7").gate(3, 0), 1);
        Due.noPlace("19: place", () -> x.gate(0, 9));
        Due.wrongNumber("19: both are one", () -> x.gate(0, 0));
    }

    private static void promise20Bored() {
        GentleRoad x = Due.land("land 3 2;row 0 9 18;row 99 99 99");
        Due.same("20: none", x.bored(0, 1, 0), -1);
        Due.same("20: one", x.bored(0, 1, 1), 10 + 18 + 50);
        Due.same("20: one is not enough", x.bored(0, 2, 1), -1);
        Due.same("20: two", x.bored(0, 2, 2), 2 * (10 + 18 + 50));
        Due.same("20: three at most", x.bored(2, 0, 3), 2 * (10 + 18 + 50));
        x.tune(6, 0);
        Due.same("20: for nothing", x.bored(0, 2, 2), 2 * (10 + 18));
        x.flood(1, true);
        // by 3 or 5 and 4, up 99 and down 81, with a bend that cannot be
        Due.same("20: water is not bored", x.bored(0, 1, 3), -1);
        GentleRoad hill = Due.land("land 3 3;row 0 50 0;row 0 50 0;row 0 0 0;bend 4;turn 0;rise 1");
        Due.same("20: round is less than through", hill.bored(0, 2, 3), 10 + 14 + 14 + 10);
        hill.tune(3, 0);
        hill.tune(6, 13);
        Due.same("20: through, twice", hill.bored(0, 2, 2), 10 + 13 + 10 + 13);
        Due.same("20: once alone does not help", hill.bored(0, 2, 1), 48);
        Due.noPlace("20: place", () -> x.bored(0, 6, 9));
        Due.wrongNumber("20: both are one", () -> x.bored(0, 0, 1));
        Due.wrongNumber("20: n", () -> x.bored(0, 1, 4));
        Due.wrongNumber("20: n", () -> x.bored(0, 1, -1));
    }

    private static void promise21Meet() {
        GentleRoad x = flat(3, 3, "");
        Due.same("21: in the middle", x.meet(0, 2, 7, 0), 4);
        Due.same("21: costs", x.meet(0, 2, 7, 1), 14 + 14 + 10);
        Due.same("21: at one of them", x.meet(0, 1, 2, 0), 1);
        Due.same("21: 0 from itself", x.meet(0, 1, 2, 1), 20);
        Due.same("21: at the corner", x.meet(0, 2, 8, 0), 2);
        Due.same("21: at the corner", x.meet(0, 2, 8, 1), 40);
        x.flood(4, true);
        x.flood(1, true);
        x.flood(3, true);
        Due.same("21: none", x.meet(0, 2, 8, 0), -1);
        Due.same("21: none", x.meet(0, 2, 8, 1), -1);
        Due.same("21: a wet one", x.meet(4, 2, 8, 1), -1);
        // round the wet middle 1 and 3 are alike
        GentleRoad ring = flat(3, 3, ";turn 0;bend 4;wet 4");
        Due.same("21: the first of several", ring.meet(8, 3, 1, 0), 1);
        Due.same("21: the first of several", ring.meet(8, 3, 1, 1), 24 + 14);
        Due.noPlace("21: place", () -> x.meet(0, 1, 9, 2));
        Due.noPlace("21: place", () -> x.meet(-1, 1, 2, 0));
        Due.noSuch("21: what", () -> x.meet(0, 0, 1, 2));
        Due.noSuch("21: what", () -> x.meet(0, 1, 2, -1));
        Due.wrongNumber("21: two are one", () -> x.meet(0, 0, 1, 0));
        Due.wrongNumber("21: two are one", () -> x.meet(0, 1, 1, 0));
        Due.wrongNumber("21: two are one", () -> x.meet(1, 0, 1, 0));
    }

    private static void goRound(GentleRoad x, Object want, int... places) {
        Due.tellBytes(x, places);
        if (want instanceof Integer) {
            Due.same("22: round", x.round(), want);
        } else {
            Due.wrongNumber("22: round", x::round);
        }
        Due.same("22: the tape is used up", x.end(1), false);
    }

    private static void promise22Round() {
        GentleRoad x = flat(3, 3, "");
        goRound(x, 68, 0, 2, 8);
        goRound(x, 80, 0, 8, 2, 6);
        goRound(x, 20, 3, 4);
        goRound(x, 60, 0, 1, 2, 5, 4, 3);
        goRound(x, "wrong", 0);
        goRound(x, "wrong");
        goRound(x, "wrong", 0, 1, 2, 3, 4, 5, 6);
        goRound(x, "wrong", 0, 1, 0);
        goRound(x, "wrong", 0, 9);
        goRound(x, "wrong", 255, 1);
        Due.same("22: no text was read", x.fault(), -1);
        x.flood(4, true);
        goRound(x, -1, 0, 4);
        goRound(x, -1, 0, 4, 8, 1);
        goRound(x, 2 * (10 + 1 + 14 + 1 + 10), 0, 8);
        // straight on alone: from 0 to 5 there is none, over 4 there is
        GentleRoad lines = Due.land("land 3 3;row 0 1 0;row 1 0 1;row 0 1 0;bend 0;flat 0;grade 99;rise 0");
        Due.same("22: no way", lines.best(0, 5, 0), -1);
        goRound(lines, -1, 0, 5, 4);
        goRound(lines, -1, 0, 4, 5);
        goRound(lines, 14 + 10 + 10 + 20, 0, 4, 5, 2);
    }

    private static void promise28Joins() {
        GentleRoad x = flat(4, 3, ";bend 2");
        x.build(1, 0, 3);
        Due.same("28: beside", x.joins(5, 1, 0), 1);
        Due.same("28: cost", x.joins(5, 1, 1), 10);
        Due.same("28: on it", x.joins(3, 1, 0), 3);
        Due.same("28: 0 for one on it", x.joins(3, 1, 1), 0);
        x.flood(1, true);
        x.flood(3, true);
        Due.same("28: on it, wet", x.joins(3, 1, 1), 0);
        // from 5: 0 and 2 are 14 away
        Due.same("28: the first in the road", x.joins(5, 1, 0), 0);
        Due.same("28: cost", x.joins(5, 1, 1), 14);
        x.flood(1, false);
        x.flood(3, false);
        x.build(1, 3, 0);
        x.flood(1, true);
        Due.same("28: the first in the road", x.joins(5, 1, 0), 2);
        x.flood(5, true);
        Due.same("28: none from a wet one", x.joins(5, 1, 0), -1);
        Due.same("28: none from a wet one", x.joins(5, 1, 1), -1);
        Due.noPlace("28: place", () -> x.joins(12, 1, 2));
        Due.noPlace("28: road", () -> x.joins(0, 4, 2));
        Due.noSuch("28: what is told ahead", () -> x.joins(0, 0, 2));
        Due.noSuch("28: what", () -> x.joins(0, 1, -1));
        Due.cannot("28: not built", () -> x.joins(0, 0, 0));
    }

    private static void promise29Spare() {
        GentleRoad x = flat(3, 3, "");
        // 3 4 5; without either step 3 1 5 for 28 and a bend of 2 that only a hairpin can be, or 4 steps
        Due.same("29: way", Due.way(x, 3, 5, 0), "3 4 5");
        Due.same("29: the first of like ones", x.spare(3, 5, 0), 0);
        Due.same("29: cost", x.spare(3, 5, 1), 14 + 20 + 14);
        GentleRoad narrow = flat(4, 2, ";wet 6;wet 7");
        // 4 5 over to 2, then 3: only the last step has none beside it
        Due.same("29: way", Due.way(narrow, 4, 3, 0), "4 1 2 3");
        Due.same("29: no way is more than any", narrow.spare(4, 3, 0), 2);
        Due.same("29: none without it", narrow.spare(4, 3, 1), -1);
        Due.same("29: none without a way", narrow.spare(4, 7, 0), -1);
        Due.same("29: none without a way", narrow.spare(4, 7, 1), -1);
        Due.same("29: one step", narrow.spare(2, 3, 0), 0);
        Due.same("29: the land stays", narrow.best(2, 3, 0), 10);
        Due.same("29: no act", narrow.count(4), 0);
        Due.noPlace("29: place", () -> x.spare(9, 9, 2));
        Due.noSuch("29: what", () -> x.spare(0, 0, 2));
        Due.noSuch("29: what", () -> x.spare(0, 1, -1));
        Due.wrongNumber("29: both are one", () -> x.spare(0, 0, 1));
    }
}

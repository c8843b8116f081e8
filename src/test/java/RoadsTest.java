/** Promises 13, 23 to 27, 30 and 31: roads as they lie, levelled ones, and water. */
public final class RoadsTest {
    private static final String HILL = "land 4 2;row 0 1 3 2;row 9 9 9 9";

    private RoadsTest() {
    }

    public static void main(String[] args) {
        promise13Level();
        promise13LevelBounds();
        promise13LevelOfForty();
        promise23Road();
        promise23RoadBroken();
        promise23RoadLevels();
        promise24At();
        promise25Earth();
        promise26Water();
        promise27Bridges();
        promise30Stages();
        promise31Common();
        Due.close();
    }

    private static void promise13Level() {
        GentleRoad x = Due.land(HILL);
        x.build(0, 0, 3);
        Due.same("13: nothing to do", x.level(0, 20), 0);
        Due.same("13: an act all the same", x.count(4), 2);
        Due.same("13: by 10", x.level(0, 10), 1);
        Due.same("13: a cutting", Due.offsets(x, 0), "0 0 -1 0");
        Due.cannot("13: no grading", () -> x.level(0, 9));
        Due.same("13: all stays", Due.offsets(x, 0) + " " + x.count(4), "0 0 -1 0 3");
        x.tune(10, 0);
        Due.same("13: balanced", x.level(0, 10), 2);
        Due.same("13: the first of like ones", Due.offsets(x, 0), "0 0 -1 1");
        x.tune(10, 5);
        x.tune(8, 9);
        Due.same("13: digging is dear", x.level(0, 10), 2);
        Due.same("13: banks", Due.offsets(x, 0), "1 1 0 0");
        x.tune(9, 3);
        Due.same("23: earth of offsets as they are", x.road(0, 8) + " " + x.road(0, 9), "6 2");
        x.tune(8, 0);
        x.tune(9, 0);
        Due.same("13: for nothing", x.level(0, 20), 0);
        Due.same("13: then the lesser ones first", Due.offsets(x, 0), "-1 -1 -1 -1");
        x.tune(10, 3);
        Due.same("13: not more than the spoil", x.level(0, 20), 0);
        Due.same("13: the first of those", Due.offsets(x, 0), "-1 -1 -1 0");
        Due.noPlace("13: road is told first", () -> x.level(4, 100));
        Due.wrongNumber("13: rule is told ahead of built", () -> x.level(1, 100));
        Due.wrongNumber("13: rule", () -> x.level(0, -1));
        Due.cannot("13: not built", () -> x.level(1, 0));
    }

    private static void promise13LevelBounds() {
        GentleRoad x = Due.land("land 2 2;row 0 7;row 90 90;grade 99;rise 0;depth 3");
        x.build(0, 0, 1);
        // 7 apart, brought together to 1 by 3 and - 3
        Due.same("13: as deep as can be", x.level(0, 10), 6);
        Due.same("13: as deep as can be", Due.offsets(x, 0), "3 -3");
        Due.cannot("13: deeper", () -> x.level(0, 9));
        x.tune(7, 2);
        Due.same("13: offsets stay", Due.offsets(x, 0), "3 -3");
        Due.cannot("13: less deep", () -> x.level(0, 29));
        Due.same("13: less deep", x.level(0, 30), 4);
        x.tune(7, 0);
        Due.cannot("13: not at all", () -> x.level(0, 69));
        Due.same("13: not at all", x.level(0, 70), 0);
        GentleRoad across = Due.land("land 2 2;row 0 90;row 90 7;grade 99;rise 0");
        across.build(3, 0, 3);
        Due.same("13: 700 is 50 times 14", across.level(3, 50), 0);
        Due.same("13: 600 is above 42 times 14", across.earth(3, 42), 2);
        Due.same("13: 600 is not above 43 times 14", across.earth(3, 43), 1);
        across.level(3, 43);
        Due.same("13: the lesser first", Due.offsets(across, 3), "0 -1");
    }

    /** Earth costs nothing, so the first offsets are as low as the others can make up for. */
    private static void promise13LevelOfForty() {
        GentleRoad x = Due.land(Due.level(9, 9, 50, ";bend 4;depth 3;spoil 30;dig 0;fill 0"));
        for (int row = 1; row < 9; row += 2) {
            for (int column = 0; column < 9; column++) {
                if (column != (row % 4 == 1 ? 8 : 0)) {
                    x.flood(row * 9 + column, true);
                }
            }
        }
        x.build(0, 0, 79);
        Due.same("13: forty", x.road(0, 0), 40);
        Due.same("13: for nothing", x.level(0, 99), 0);
        Due.same("13: 75 down, 45 up", Due.offsets(x, 0), "-3 ".repeat(25) + "3 ".repeat(15).trim());
        Due.same("13: together", x.road(0, 9), -30);
        x.tune(10, 0);
        x.level(0, 60);
        Due.same("13: 60 down, 60 up", Due.offsets(x, 0), "-3 ".repeat(20) + "3 ".repeat(20).trim());
        x.level(0, 10);
        Due.same("13: by one a step", Due.offsets(x, 0), "-3 ".repeat(17) + "-2 -1 0 0 1 2" + " 3".repeat(17));
    }

    private static String answers(GentleRoad x, int road) {
        StringBuilder all = new StringBuilder();
        for (int what = 0; what < 15; what++) {
            all.append(what == 0 ? "" : " ").append(x.road(road, what));
        }
        return all.toString();
    }

    private static void promise23Road() {
        GentleRoad x = Due.land(HILL);
        x.build(2, 0, 3);
        Due.same("23: all", answers(x, 2), "4 30 3 38 0 -1 -1 1 0 0 10 3 0 3 1");
        x.build(2, 3, 0);
        Due.same("23: fro", answers(x, 2), "4 30 1 38 0 -1 -1 1 0 0 10 3 0 3 3");
        x.level(2, 10);
        Due.same("23: levelled", answers(x, 2), "4 30 1 38 0 -1 -1 1 1 -1 10 2 0 3 3");
        x.tune(3, 0);
        Due.same("23: cost by now", x.road(2, 3), 30);
        GentleRoad bent = Due.land("land 3 2;row 0 0 9;row 0 0 0;bend 0;flat 0");
        bent.build(0, 0, 5);
        Due.same("23: with a hairpin", answers(bent, 0), "4 30 0 50 1 -1 -1 0 0 0 0 0 0 2 0");
        bent.tune(1, 2);
        Due.same("23: a bend by now", bent.road(0, 3) + " " + bent.road(0, 4), "32 0");
        bent.tune(1, 1);
        bent.tune(5, 99);
        Due.same("23: a dear hairpin", bent.road(0, 3) + " " + bent.road(0, 4), "129 1");
        Due.noPlace("23: road is told first", () -> x.road(4, 15));
        Due.noPlace("23: road", () -> x.road(-1, 0));
        Due.noSuch("23: what is told ahead of built", () -> x.road(0, 15));
        Due.noSuch("23: what", () -> x.road(2, -1));
        Due.cannot("23: not built", () -> x.road(0, 0));
    }

    private static void promise23RoadBroken() {
        GentleRoad x = Due.land("land 3 2;row 0 0 9;row 0 0 0;bend 0;flat 0");
        x.build(0, 0, 5);
        Due.same("23: as it was built", Due.places(x, 0), "0 3 4 5");
        x.raise(1, 1);
        Due.same("23: no more flat at 3", x.road(0, 5) + " " + x.road(0, 6), "-1 1");
        Due.same("23: cost, broken or not", x.road(0, 3), 50);
        x.tune(1, 2);
        Due.same("23: a bend needs no flat place", x.road(0, 6), -1);
        x.flood(5, true);
        Due.same("23: wet", x.road(0, 5), 2);
        x.raise(4, 3);
        Due.same("23: steep", x.road(0, 5), 1);
        Due.same("23: as the land lies", x.road(0, 3), 10 + 10 + 6 + 10 + 6 + 2);
        x.flood(0, true);
        Due.same("23: wet ahead", x.road(0, 5), 0);
        GentleRoad across = Due.land("land 2 2;row 0 0;row 0 0");
        across.build(1, 0, 3);
        across.flood(1, true);
        Due.same("23: one beside is wet", across.road(1, 5), -1);
        across.flood(2, true);
        Due.same("23: both beside are wet", across.road(1, 5), 0);
        Due.same("23: the road stays", Due.places(across, 1), "0 3");
    }

    private static void promise23RoadLevels() {
        GentleRoad x = Due.land("land 3 3;row 0 90 90;row 2 0 90;row 90 90 3;grade 99;rise 0;depth 3;spoil 30");
        x.build(0, 0, 8);
        Due.same("23: two across", Due.places(x, 0), "0 4 8");
        Due.same("23: the steeper", x.road(0, 7), 1);
        Due.same("23: ruling by fills and cuts", x.road(0, 10), 0);
        Due.same("23: earth", x.level(0, 0), 3);
        Due.same("23: the first of like ones", Due.offsets(x, 0), "0 0 -3");
        Due.same("23: all even, so the first", x.road(0, 7), 0);
        Due.same("23: levels", x.road(0, 11) + " " + x.road(0, 12), "0 0");
        x.raise(8, -3);
        Due.same("23: a level below 0", x.road(0, 11) + " " + x.road(0, 12), "0 -3");
        x.tune(8, 5);
        Due.same("23: earth of offsets as they are", x.road(0, 8) + " " + x.road(0, 9), "15 -3");
        x.raise(8, 99);
        Due.same("23: no ruling", x.road(0, 10), -1);
        // 10 long and 1 apart is steeper than 14 long and 1 apart
        GentleRoad two = Due.land("land 3 2;row 0 90 90;row 90 1 2;grade 99;rise 0");
        two.build(0, 0, 5);
        Due.same("23: as a fraction", Due.places(two, 0) + ", " + two.road(0, 7), "0 4 5, 1");
        two.build(0, 5, 0);
        Due.same("23: as a fraction", Due.places(two, 0) + ", " + two.road(0, 7), "5 4 0, 0");
        Due.same("23: one step by one heading", two.road(0, 13), 1);
    }

    private static void promise24At() {
        GentleRoad x = Due.land(HILL);
        x.build(3, 0, 3);
        x.level(3, 10);
        Due.same("24: places", Due.places(x, 3), "0 1 2 3");
        Due.same("24: offset", x.at(3, 2, true), -1);
        Due.same("24: behind", x.at(3, 4, false) + " " + x.at(3, 4, true), "-1 100");
        Due.same("24: ahead", x.at(3, -1, false) + " " + x.at(3, -1, true), "-1 100");
        Due.same("24: far", x.at(3, Integer.MIN_VALUE, false) + " " + x.at(3, Integer.MAX_VALUE, true), "-1 100");
        Due.noPlace("24: road", () -> x.at(4, 0, false));
        Due.noPlace("24: road", () -> x.at(-1, 0, false));
        Due.cannot("24: not built", () -> x.at(0, 0, false));
    }

    private static void promise25Earth() {
        GentleRoad x = Due.land(HILL + ";dig 3;fill 2");
        x.build(1, 0, 3);
        Due.same("25: none to move", x.earth(1, 20), 0);
        Due.same("25: a cutting", x.earth(1, 10), 3);
        Due.same("25: none", x.earth(1, 9), -1);
        Due.same("25: nothing changed", Due.offsets(x, 1) + " " + x.count(4), "0 0 0 0 1");
        x.tune(10, 0);
        Due.same("25: balanced", x.earth(1, 10), 5);
        x.tune(7, 0);
        Due.same("25: no depth", x.earth(1, 10), -1);
        Due.same("25: no need", x.earth(1, 99), 0);
        Due.noPlace("25: road", () -> x.earth(4, 100));
        Due.wrongNumber("25: rule", () -> x.earth(0, 100));
        Due.wrongNumber("25: rule", () -> x.earth(1, -1));
        Due.cannot("25: not built", () -> x.earth(0, 0));
    }

    private static void promise26Water() {
        GentleRoad x = Due.land("land 4 4;row 9 9 9 9;row 9 3 5 7;row 9 5 3 9;row 9 9 9 9;wet 5");
        Due.same("26: runs to the wet one, too", x.water(0, 0), 5);
        Due.same("26: the first by heading", x.water(6, 0), 10);
        Due.same("26: the first by heading", x.water(9, 0), 5);
        Due.same("26: a sink", x.water(5, 0), -1);
        Due.same("26: sinks", x.count(5), 2);
        // to 5: 0 1 4 8 9 by themselves, 2 (beside 5 and 6: 5), 12 by 9
        Due.same("26: catch of 5", x.water(5, 1), 8);
        Due.same("26: catch of 10", x.water(10, 1), 8);
        Due.same("26: catch of 9", x.water(9, 1), 2);
        Due.same("26: catch of itself alone", x.water(0, 1), 1);
        Due.same("26: spill over 6 and 7", x.water(5, 2), 7);
        Due.same("26: spill of 9", x.water(9, 2), 7);
        Due.same("26: spill at the edge", x.water(7, 2) + " " + x.water(0, 2), "7 9");
        x.raise(15, -5);
        Due.same("26: across", x.water(5, 2), 4);
        x.raise(15, -4);
        Due.same("26: not below its own", x.water(5, 2), 3);
        x.raise(6, 90);
        Due.same("26: its own is the greatest", x.water(6, 2), 95);
        Due.noPlace("26: place is told first", () -> x.water(16, 3));
        Due.noSuch("26: what", () -> x.water(0, 3));
        Due.noSuch("26: what", () -> x.water(0, -1));
        GentleRoad all = Due.land("land 9 9;row 0 1 2 3 4 5 6 7 8;row 1 1 2 3 4 5 6 7 8;row 2 2 2 3 4 5 6 7 8"
                + ";row 3 3 3 3 4 5 6 7 8;row 4 4 4 4 4 5 6 7 8;row 5 5 5 5 5 5 6 7 8;row 6 6 6 6 6 6 6 7 8"
                + ";row 7 7 7 7 7 7 7 7 8;row 8 8 8 8 8 8 8 8 8");
        Due.same("26: all run to one", all.water(0, 1), 81);
    }

    private static void promise27Bridges() {
        GentleRoad x = Due.land("land 3 2;row 0 2 9;row 0 1 2");
        x.build(0, 0, 5);
        x.build(1, 3, 5);
        Due.same("27: each catches itself", x.bridges(0, 1), 3);
        Due.same("27: two", x.bridges(0, 2), 0);
        Due.same("27: three", x.bridges(1, 3), 2);
        Due.same("27: five", x.bridges(1, 5), 1);
        Due.same("27: most", x.bridges(1, 81), 0);
        Due.noPlace("27: road", () -> x.bridges(4, 0));
        Due.wrongNumber("27: n", () -> x.bridges(2, 0));
        Due.wrongNumber("27: n", () -> x.bridges(0, 82));
        Due.cannot("27: not built", () -> x.bridges(2, 1));
        GentleRoad twice = twice();
        Due.same("27: a place twice", Due.places(twice, 0), "4 3 2 1 0 1 7 13");
        Due.same("27: counts once", twice.bridges(0, 1), 7);
    }

    /** At 1 one cannot turn to 7, but only at 0, so that the road comes to 1 again, and by one step to and fro. */
    private static GentleRoad twice() {
        GentleRoad x = Due.land("land 5 3;row 0 0 1 0 0;row 0 0 0 0 0;row 0 9 0 0 0;bend 1;flat 0"
                + ";wet 5;wet 6;wet 8;wet 9;wet 10;wet 11;wet 14");
        Due.same("27: cost", x.build(0, 4, 13), 10 + 12 + 12 + 10 + 20 + 10 + 1 + 14 + 14);
        return x;
    }

    private static void promise30Stages() {
        GentleRoad x = Due.land(Due.level(9, 2, 0, ""));
        x.build(0, 0, 17);
        // seven of 10 and one of 14, that one first as 10 and 14 to lesser places goes last
        Due.same("30: way", Due.places(x, 0), "0 1 2 3 4 5 6 7 17");
        int[] want = {84, 44, 30, 24, 20, 20};
        for (int n = 1; n <= 6; n++) {
            Due.same("30: in " + n, x.stages(0, n), want[n - 1]);
        }
        x.build(1, 0, 1);
        Due.same("30: one step", x.stages(1, 1), 10);
        Due.same("30: fewer steps", x.stages(1, 2), -1);
        x.build(1, 0, 5);
        Due.same("30: as many as steps", x.stages(1, 5), 10);
        Due.same("30: fewer steps", x.stages(1, 6), -1);
        x.build(2, 0, 10);
        Due.same("30: one step across", x.stages(2, 1), 14);
        Due.noPlace("30: road", () -> x.stages(4, 0));
        Due.wrongNumber("30: n is told ahead", () -> x.stages(3, 0));
        Due.wrongNumber("30: n", () -> x.stages(0, 7));
        Due.cannot("30: not built", () -> x.stages(3, 1));
    }

    private static void promise31Common() {
        GentleRoad x = Due.land(Due.level(4, 3, 0, ""));
        x.build(0, 0, 3);
        x.build(1, 3, 1);
        x.build(2, 4, 7);
        Due.same("31: to and fro alike", x.common(0, 1), 2);
        Due.same("31: to and fro alike", x.common(1, 0), 2);
        Due.same("31: none", x.common(0, 2), 0);
        GentleRoad twice = twice();
        twice.build(1, 0, 4);
        Due.same("31: a step twice counts once", twice.common(0, 1) + " " + twice.common(1, 0), "4 4");
        Due.noPlace("31: road", () -> x.common(0, 4));
        Due.noPlace("31: road", () -> x.common(-1, -1));
        Due.wrongNumber("31: both are one", () -> x.common(3, 3));
        Due.cannot("31: one is not built", () -> x.common(0, 3));
        Due.cannot("31: one is not built", () -> x.common(3, 0));
    }
}

/** Promises 13, 23 to 27, 30 and 31, each sentence by itself. */
final class RoadCallEdges extends Refused {
    private RoadCallEdges() {
    }

    static void run() {
        level();
        road();
        at();
        earth();
        water();
        bridges();
        stages();
        common();
    }

    private static void level() {
        under("Promise 13");
        says("LEVELLED: EARTH.");
        GentleRoad x = rich();
        // 0 1 3 high: by 20 nothing to do, by 10 one less at the end; by 0 0 -1 -3 is too deep, 2 1 -1 is dearer
        are(x, "0 1 0 3", "level 0 20", "level 0 10", "level 0 99", "level 0 0");
        offsetsAre(x, 0, "1 0 -2");
        are(x, "0 8", "level 1 0", "count 4");
        says("IllegalArgumentException: the RULE is none; IllegalStateException: it is not BUILT, or there is no GRADING.");
        beyond(WRONG, 0, 99, "level 0 N", "level 2 N");
        refused(CANNOT, "level 2 0", "level 3 99");
        noPlace("level R 0", "level R 100", "level R -1");
        GentleRoad y = rich();
        did(y, "tune 7 0");
        are(y, CANNOT + " " + CANNOT + " 5 1", "level 0 0", "level 0 19", "count 4", "road 0 8");
        offsetsAre(y, 0, "0 0 -1");
        are(y, "0 6 0", "level 0 20", "count 4", "road 0 8");
    }

    private static void road() {
        under("Promise 23");
        says("Of a ROAD what 0 how many PLACES, 1 LONG, 2 CLIMB, 3 COST, 4 HAIRPINS");
        GentleRoad x = rich();
        are(x, "3 20 3 26 0", "road 0 0", "road 0 1", "road 0 2", "road 0 3", "road 0 4");
        are(x, "2 10 0 10 0", "road 1 0", "road 1 1", "road 1 2", "road 1 3", "road 1 4");
        GentleRoad far = serpentine("");
        did(far, "build 0 0 79");
        are(far, "40 422 0 422 0", "road 0 0", "road 0 1", "road 0 2", "road 0 3", "road 0 4");
        fullRoads();
        says("5 the first STEP that is BROKEN (NONE), 6 the first BEND that is BROKEN (by the number of the PLACE in the ROAD; NONE)");
        are(x, "-1 -1 -1 -1", "road 0 5", "road 0 6", "road 1 5", "road 1 6");
        did(x, "tune 0 19");
        is(x, "road 0 5", 1);
        did(x, "tune 0 9");
        is(x, "road 0 5", 0);
        // the long road turns four times, from east over south-east and south-west to west: at 7, 17, 25 at first
        did(far, "tune 1 0", "tune 2 0");
        are(far, "-1 12", "road 0 6", "road 0 4");
        did(far, "raise 24 1");
        is(far, "road 0 6", 9);
        did(far, "raise 24 -1", "raise 60 1");
        is(far, "road 0 6", 25);
        did(far, "tune 1 2");
        is(far, "road 0 6", NONE);
        says("7 STEEPEST, 8 EARTH of its OFFSETS as they are, 9 all OFFSETS together, 10 RULING (NONE)");
        GentleRoad y = rich();
        // levels 0 1 2: both by 1
        are(y, "0 1 -1 0", "road 0 7", "road 0 8", "road 0 9", "road 0 10");
        did(y, "tune 8 9");
        is(y, "road 0 8", 9);
        did(y, "tune 7 0");
        are(y, "20 9 -1", "road 0 10", "road 0 8", "road 0 9");
        did(y, "raise 2 8");
        is(y, "road 0 10", NONE);
        did(y, "raise 2 -1");
        is(y, "road 0 10", 90);
        says("11 the greatest LEVEL, 12 the least");
        GentleRoad z = rich();
        are(z, "2 0 2 2", "road 0 11", "road 0 12", "road 1 11", "road 1 12");
        did(z, "raise 2 -3", "raise 0 50");
        are(z, "50 -1", "road 0 11", "road 0 12");
        says("13 the most STEPS one behind another by one HEADING, 14 what is gone down, together (by HEIGHTS).");
        // 50 1 0 high by now, levels 50 1 -1
        are(z, "2 1 50 0", "road 0 13", "road 1 13", "road 0 14", "road 1 14");
        // seven to the east at first; 60 is 1 higher
        are(far, "7 1 1", "road 0 13", "road 0 14", "road 0 2");
        // no further than the road goes, though the next place by that heading would be 0
        GentleRoad end = flat(3, 3, "");
        did(end, "build 0 2 1", "build 1 6 3", "build 2 8 4");
        are(end, "1 1 1", "road 0 13", "road 1 13", "road 2 13");
        did(end, "build 0 2 0", "build 1 6 0", "build 2 8 0");
        are(end, "2 2 2", "road 0 13", "road 1 13", "road 2 13");
        // one, then four by another heading
        GentleRoad runs = flat(6, 2, ";turn 0;wet 7");
        did(runs, "build 0 6 5", "build 1 5 6", "build 2 0 1");
        placesAre(runs, 0, "6 1 2 3 4 5");
        are(runs, "4 4 1", "road 0 13", "road 1 13", "road 2 13");
        says("NoSuchElementException: another what; IllegalStateException: it is not BUILT.");
        beyond(NO_SUCH, 0, 14, "road 0 N", "road 2 N");
        for (int what = 0; what < 15; what++) {
            refused(CANNOT, "road 2 " + what);
        }
        noPlace("road R 0", "road R 15", "road R -1");
    }

    /** All four as long as can be: what is asked of one does not come from the next one. */
    private static void fullRoads() {
        GentleRoad x = serpentine(";depth 1;dig 0;fill 9;spoil 30");
        String[] due = {"40", "422", "0", "422", "0", "-1", "-1", "0", "0", "0", "0", "50", "50", "7", "0"};
        for (int road = 0; road < 4; road++) {
            did(x, "build " + road + " 0 79");
        }
        for (int road = 0; road < 4; road++) {
            for (int what = 0; what < 15; what++) {
                is(x, "road " + road + " " + what, due[what]);
            }
        }
        // 30 cut down by 1, 10 as they were; the others stay
        for (int road = 0; road < 4; road++) {
            is(x, "level " + road + " 10", 0);
            are(x, "-30 0 50 49 40", "road R 9".replace("R", "" + road), "road R 8".replace("R", "" + road),
                    "road R 11".replace("R", "" + road), "road R 12".replace("R", "" + road),
                    "road R 0".replace("R", "" + road));
            is(x, "road " + (road + 1) % 4 + " 9", road == 3 ? -30 : 0);
        }
        for (int road = 0; road < 4; road++) {
            are(x, "-1 0 -1 100", "at R 0 true".replace("R", "" + road), "at R 39 true".replace("R", "" + road),
                    "at R 40 false".replace("R", "" + road), "at R 40 true".replace("R", "" + road));
        }
    }

    private static void at() {
        under("Promise 24");
        says("The k-th PLACE of a ROAD (offset false), or its OFFSET");
        GentleRoad x = rich();
        are(x, "0 1 2 0 0 -1", "at 0 0 false", "at 0 1 false", "at 0 2 false", "at 0 0 true", "at 0 1 true", "at 0 2 true");
        are(x, "3 4 0 0", "at 1 0 false", "at 1 1 false", "at 1 0 true", "at 1 1 true");
        says("NONE without (100 without of an OFFSET).");
        for (int k : new int[] {-1, 3, 39, 40, 41, LEAST, MOST}) {
            are(x, "-1 100", "at 0 " + k + " false", "at 0 " + k + " true");
        }
        are(x, "-1 100", "at 1 2 false", "at 1 2 true");
        // no more of the road that it was
        did(x, "build 0 3 4");
        are(x, "4 0 -1 100", "at 0 1 false", "at 0 1 true", "at 0 2 false", "at 0 2 true");
        GentleRoad y = serpentine("");
        did(y, "build 3 0 79");
        are(y, "79 0 -1 100", "at 3 39 false", "at 3 39 true", "at 3 40 false", "at 3 40 true");
        says("IllegalStateException: it is not BUILT.");
        refused(CANNOT, "at 2 0 false", "at 2 0 true", "at 3 -1 false", "at 3 99 true");
        noPlace("at R 0 false", "at R 0 true", "at R -1 true");
    }

    private static void earth() {
        under("Promise 25");
        says("EARTH of GRADING by a RULE; NONE without.");
        GentleRoad x = rich();
        are(x, "3 3 1 1 0 0", "earth 0 0", "earth 0 9", "earth 0 10", "earth 0 19", "earth 0 20", "earth 0 99");
        offsetsAre(x, 0, "0 0 -1");
        is(x, "count 4", 4);
        did(x, "tune 7 0");
        are(x, "-1 -1 0", "earth 0 0", "earth 0 19", "earth 0 20");
        is(x, "earth 1 0", 0);
        says("IllegalArgumentException: the RULE is none; IllegalStateException: it is not BUILT.");
        beyond(WRONG, 0, 99, "earth 0 N", "earth 3 N");
        refused(CANNOT, "earth 2 0", "earth 3 99");
        noPlace("earth R 0", "earth R 100", "earth R -1");
    }

    private static void water() {
        under("Promise 26");
        says("RUN (what 0; NONE), CATCH (1), SPILL (2).");
        GentleRoad x = rich();
        are(x, "-1 0 1 0 0 1", "water 0 0", "water 1 0", "water 2 0", "water 3 0", "water 4 0", "water 5 0");
        are(x, "6 3 1 1 1 1", "water 0 1", "water 1 1", "water 2 1", "water 3 1", "water 4 1", "water 5 1");
        are(x, "0 1 3 2 2 99", "water 0 2", "water 1 2", "water 2 2", "water 3 2", "water 4 2", "water 5 2");
        says("NoSuchElementException: another what.");
        beyond(NO_SUCH, 0, 2, "water 0 N", "water 5 N");
        noPlace("water P 0", "water P 1", "water P 2", "water P 3", "water P -1");
    }

    private static void bridges() {
        under("Promise 27");
        says("BRIDGES.");
        GentleRoad x = rich();
        are(x, "3 2 2 1 1 0 0", "bridges 0 1", "bridges 0 2", "bridges 0 3", "bridges 0 4", "bridges 0 6", "bridges 0 7",
                "bridges 0 81");
        are(x, "2 0", "bridges 1 1", "bridges 1 2");
        says("IllegalArgumentException: n is none (1 to 81); IllegalStateException: it is not BUILT.");
        beyond(WRONG, 1, 81, "bridges 0 N", "bridges 2 N");
        refused(CANNOT, "bridges 2 1", "bridges 3 81");
        noPlace("bridges R 1", "bridges R 0", "bridges R 82");
    }

    private static void stages() {
        under("Promise 30");
        says("STAGES; NONE.");
        GentleRoad x = rich();
        are(x, "20 10 -1 -1 10 -1", "stages 0 1", "stages 0 2", "stages 0 3", "stages 0 6", "stages 1 1", "stages 1 2");
        says("IllegalArgumentException: n is none; IllegalStateException: it is not BUILT.");
        beyond(WRONG, 1, 6, "stages 0 N", "stages 2 N");
        refused(CANNOT, "stages 2 1", "stages 3 6");
        noPlace("stages R 1", "stages R 0", "stages R 7");
    }

    private static void common() {
        under("Promise 31");
        says("COMMON.");
        GentleRoad x = rich();
        are(x, "0 0", "common 0 1", "common 1 0");
        did(x, "build 2 2 0", "build 3 1 0");
        are(x, "2 1 1 0", "common 0 2", "common 2 3", "common 3 0", "common 3 1");
        says("IllegalArgumentException: both are one; IllegalStateException: one is not BUILT.");
        refused(WRONG, "common 0 0", "common 1 1", "common 2 2", "common 3 3");
        refused(CANNOT, "common 0 2", "common 2 0", "common 2 3", "common 3 1");
        noPlace("common R 0", "common 0 R", "common R R", "common 2 R", "common R 3");
        refused(NO_PLACE, "common -1 4", "common 4 -1");
    }
}

/** Promises 11, 12, 15 to 22, 28 and 29, each sentence by itself. */
final class WayCallEdges extends Refused {
    private WayCallEdges() {
    }

    static void run() {
        build();
        drop();
        best();
        along();
        reach();
        grade();
        gate();
        bored();
        meet();
        round();
        joins();
        spare();
    }

    private static void build() {
        under("Promise 11");
        says("BUILD: COST.");
        GentleRoad x = rich();
        // 0 to 1 is 10 and 2, 1 to 2 is 10 and 4; the hairpins' 33 is not needed
        are(x, "26 26 10", "build 3 0 2", "build 2 2 0", "build 3 3 4");
        is(x, "count 3", 15);
        placesAre(x, 3, "3 4");
        placesAre(x, 2, "2 1 0");
        says("IllegalArgumentException: both PLACES are one; IllegalStateException: it cannot be.");
        refused(WRONG, "build 0 0 0", "build 2 4 4", "build 0 5 5");
        refused(CANNOT, "build 0 0 5", "build 2 5 0", "build 3 4 5", "build 1 5 2");
        noPlace("build R 0 1", "build R 0 0", "build 0 P 1", "build 0 1 P", "build 0 P P", "build 2 P 5");
        refused(NO_PLACE, "build 4 6 6", "build -1 0 5", "build 0 6 6");
        GentleRoad y = serpentine("");
        did(y, "build 0 0 79", "tune 5 1");
        are(y, CANNOT + " 40 1 8", "build 0 0 80", "road 0 0", "count 3", "count 4");
        are(y, CANNOT + " 7 20", "build 1 80 0", "undo", "term 5");
    }

    private static void drop() {
        under("Promise 12");
        says("DROP: how many PLACES it had.");
        are(rich(), "3 2 0 6", "drop 0", "drop 1", "count 3", "count 4");
        GentleRoad y = serpentine("");
        did(y, "build 3 0 79");
        is(y, "drop 3", 40);
        says("IllegalStateException: it is not BUILT.");
        refused(CANNOT, "drop 2", "drop 3");
        noPlace("drop R");
        is(y, "drop 3", CANNOT);
        GentleRoad x = rich();
        did(x, "drop 0");
        is(x, "drop 0", CANNOT);
        did(x, "undo");
        is(x, "drop 0", 3);
    }

    private static void best() {
        under("Promise 15");
        says("BEST by a KIND from a PLACE to another one: how much it is");
        GentleRoad x = rich();
        // 0 1 2: up 1, up 2; all of it is used; 0 catches all 6, 1 catches 1 2 5, 2 itself
        are(x, "26 20 3 2 13 30", "best 0 2 0", "best 0 2 1", "best 0 2 2", "best 0 2 3", "best 0 2 4", "best 0 2 5");
        are(x, "26 20 0 2 13 35", "best 2 0 0", "best 2 0 1", "best 2 0 2", "best 2 0 3", "best 2 0 4", "best 2 0 5");
        says("NONE without a WAY.");
        for (int kind = 0; kind < 6; kind++) {
            are(x, "-1 -1", "best 0 5 " + kind, "best 5 0 " + kind);
        }
        says("NoSuchElementException: there is no such KIND; IllegalArgumentException: both PLACES are one.");
        beyond(NO_SUCH, 0, 5, "best 0 1 N", "best 0 0 N", "best 0 5 N");
        refused(WRONG, "best 0 0 0", "best 5 5 5", "best 4 4 3");
        noPlace("best P 0 0", "best 0 P 0", "best P P 0", "best P P 6", "best 0 P -1");
    }

    private static void along() {
        under("Promise 16");
        says("The k-th PLACE (0 the first) of BEST by a KIND");
        GentleRoad x = rich();
        for (int kind = 0; kind < 6; kind++) {
            are(x, "0 1 2 -1", "along 0 2 " + kind + " 0", "along 0 2 " + kind + " 1", "along 0 2 " + kind + " 2",
                    "along 0 2 " + kind + " 3");
        }
        says("NONE without.");
        for (int k : new int[] {-1, 3, LEAST, MOST}) {
            is(x, "along 0 2 0 " + k, NONE);
        }
        // one that is shorter than the one asked for ahead of it
        are(x, "4 -1 2 -1", "along 3 4 0 1", "along 3 4 0 2", "along 0 2 0 2", "along 0 2 0 3");
        are(x, "-1 -1 -1", "along 0 5 0 0", "along 0 5 0 1", "along 5 0 3 0");
        GentleRoad y = serpentine("");
        are(y, "0 79 80 -1", "along 0 80 0 0", "along 0 80 0 39", "along 0 80 0 40", "along 0 80 0 41");
        says("NoSuchElementException: there is no such KIND; IllegalArgumentException: both PLACES are one.");
        beyond(NO_SUCH, 0, 5, "along 0 1 N 0", "along 0 0 N 0", "along 0 1 N -1");
        refused(WRONG, "along 0 0 0 0", "along 5 5 5 0", "along 4 4 0 -1", "along 4 4 3 99");
        noPlace("along P 0 0 0", "along 0 P 0 0", "along P P 0 0", "along P P 6 -1");
    }

    private static void reach() {
        under("Promise 17");
        says("REACH.");
        are(rich(), "4 4 4 4 4 0", "reach 0", "reach 1", "reach 2", "reach 3", "reach 4", "reach 5");
        is(flat(2, 2, ""), "reach 3", 3);
        noPlace("reach P");
    }

    private static void grade() {
        under("Promise 18");
        says("LEAST GRADE; NONE.");
        GentleRoad x = rich();
        // 2 to 4 is 1 across, 4 to 3 even: bends of 1 at 4
        are(x, "8 8 1 -1 -1", "grade 2 4", "grade 2 3", "grade 3 4", "grade 0 5", "grade 5 0");
        is(x, "term 0", 20);
        says("IllegalArgumentException: both PLACES are one.");
        refused(WRONG, "grade 0 0", "grade 5 5");
        noPlace("grade P 0", "grade 0 P", "grade P P");
    }

    private static void gate() {
        under("Promise 19");
        says("GATE; NONE.");
        GentleRoad x = rich();
        // were 1 wet, from 4 to 2 one would go between two wet ones
        are(x, "1 -1 -1 -1", "gate 0 2", "gate 0 5", "gate 0 1", "gate 5 0");
        did(x, "flood 1 true");
        // no way to 2 by now; and were 3 wet, too, none from 0
        are(x, "-1 -1 3 3", "best 0 2 0", "gate 0 2", "gate 0 4", "gate 4 0");
        did(x, "flood 5 false", "raise 5 -97");
        are(x, "3 3 3 4", "gate 0 2", "gate 0 5", "gate 0 4", "gate 3 2");
        is(x, "count 2", 1);
        says("IllegalArgumentException: both PLACES are one.");
        refused(WRONG, "gate 0 0", "gate 5 5");
        noPlace("gate P 0", "gate 0 P", "gate P P");
    }

    private static void bored() {
        under("Promise 20");
        says("BORED; NONE.");
        GentleRoad x = rich();
        are(x, "26 26 -1", "bored 0 2 0", "bored 0 2 3", "bored 0 5 3");
        did(x, "tune 0 10");
        // 1 to 2 is steep by now; round by 3, a hairpin there as 4 is not flat, and 4
        are(x, (16 + 33 + 10 + 1 + 16) + " " + (10 + 4 + 50), "bored 1 2 0", "bored 1 2 1");
        did(x, "flood 5 false");
        are(x, "-1 " + (10 + 2 * 96 + 50), "bored 2 5 0", "bored 2 5 1");
        says("IllegalArgumentException: both PLACES are one, or n is none.");
        beyond(WRONG, 0, 3, "bored 0 1 N", "bored 0 0 N", "bored 0 5 N");
        refused(WRONG, "bored 0 0 0", "bored 5 5 3");
        noPlace("bored P 0 0", "bored 0 P 0", "bored P P 4", "bored 0 P -1");
    }

    private static void meet() {
        under("Promise 21");
        says("MEET (what 0), or the COSTS together (1); NONE.");
        GentleRoad x = rich();
        are(x, "1 26 1 26", "meet 0 1 2 0", "meet 0 1 2 1", "meet 2 1 0 0", "meet 2 1 0 1");
        are(x, "-1 -1 -1 -1", "meet 0 1 5 0", "meet 0 1 5 1", "meet 5 0 1 0", "meet 0 5 1 1");
        says("NoSuchElementException: another what; IllegalArgumentException: two of the PLACES are one.");
        beyond(NO_SUCH, 0, 1, "meet 0 1 2 N", "meet 0 0 0 N", "meet 0 1 5 N");
        refused(WRONG, "meet 0 0 1 0", "meet 0 1 0 0", "meet 1 0 0 0", "meet 0 0 0 0", "meet 0 0 1 1", "meet 5 5 0 1",
                "meet 0 5 0 1", "meet 0 5 5 1");
        noPlace("meet P 1 2 0", "meet 0 P 2 0", "meet 0 1 P 0", "meet 0 0 P 2", "meet P P P 2", "meet 0 P 0 -1");
    }

    private static void round() {
        under("Promise 22");
        says("Uses the TAPE up: ROUND; NONE.");
        GentleRoad x = rich();
        // the tape has 0 1 4: 12 and 12 and 18
        are(x, "42 false " + WRONG, "round", "end 1", "round");
        tellPlaces(x, 0, 5);
        are(x, "-1 false 7", "round", "end 1", "fault");
        tellPlaces(x, 4, 3, 2, 1, 0);
        // 4 3 0 1 2 4: 10, 14, 12, 14, 16
        are(x, "66 false", "round", "end 1");
        says("IllegalArgumentException: the TAPE is not that (no text is read).");
        int[][] none = {{}, {0}, {0, 0}, {0, 6}, {6, 0}, {0, 1, 255}, {0, 1, 2, 3, 4, 5, 6}, {0, 1, 2, 3, 4, 5, 0}, {0, 1, 2, 1}};
        for (int[] places : none) {
            GentleRoad y = rich();
            did(y, "end 0");
            tellPlaces(y, places);
            are(y, WRONG + " false 7 4 3 33", "round", "end 1", "fault", "count 4", "count 3", "term 5");
            placesAre(y, 0, "0 1 2");
            offsetsAre(y, 0, "0 0 -1");
            are(y, "3 true 0", "undo", "back", "count 3");
        }
        tellPlaces(x, 0, 1, 2, 3, 4, 5);
        is(x, "round", NONE);
        is(new GentleRoad(), "round", WRONG);
    }

    private static void joins() {
        under("Promise 28");
        says("JOINS (what 0), or the COST (1); NONE.");
        GentleRoad x = rich();
        // 4 to 1 is 10 and 2, to 2 14 and 2, to 0 14 and 4
        are(x, "1 12 1 0 3 14", "joins 4 0 0", "joins 4 0 1", "joins 1 0 0", "joins 1 0 1", "joins 0 1 0", "joins 0 1 1");
        are(x, "-1 -1", "joins 5 0 0", "joins 5 0 1");
        says("NoSuchElementException: another what; IllegalStateException: the ROAD is not BUILT.");
        beyond(NO_SUCH, 0, 1, "joins 0 0 N", "joins 0 2 N", "joins 5 0 N");
        refused(CANNOT, "joins 0 2 0", "joins 0 3 1", "joins 5 2 0");
        noPlace("joins P 0 0", "joins P 2 0", "joins P 0 2", "joins 0 R 0", "joins 0 R 2", "joins 0 R -1");
        refused(NO_PLACE, "joins 6 4 2", "joins 6 -1 0", "joins 5 4 0");
    }

    private static void spare() {
        under("Promise 29");
        says("SPARE: the number of the STEP (what 0, 0 the first), or BEST by COST without it (1; NONE, if there is no WAY then); NONE.");
        GentleRoad x = flat(4, 2, ";wet 6;wet 7");
        are(x, "2 -1 0 -1 -1 -1", "spare 4 3 0", "spare 4 3 1", "spare 3 4 0", "spare 3 4 1", "spare 4 7 0", "spare 4 7 1");
        are(flat(3, 3, ""), "0 48", "spare 3 5 0", "spare 3 5 1");
        says("NoSuchElementException: another what; IllegalArgumentException: both PLACES are one.");
        beyond(NO_SUCH, 0, 1, "spare 0 1 N", "spare 0 0 N", "spare 0 5 N");
        refused(WRONG, "spare 0 0 0", "spare 5 5 1");
        noPlace("spare P 0 0", "spare 0 P 0", "spare P P 2", "spare 0 P -1");
    }
}

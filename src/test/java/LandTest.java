/** Promises 1 to 10, 14 and 32 to 34: the tape, the text, what the land is, acts and the image. */
public final class LandTest {
    private static final String FOUR = "land 2 2;row 1 2;row 3 4";

    private LandTest() {
    }

    public static void main(String[] args) {
        promise1New();
        promise2Feed();
        promise3End();
        promise4Land();
        promise5Fault();
        promise6Place();
        promise7Term();
        promise8Tune();
        promise9Raise();
        promise10Flood();
        promise14Undo();
        promise14UndoOfEachAct();
        promise32And33Image();
        promise34Count();
        Due.close();
    }

    private static void promise1New() {
        GentleRoad x = new GentleRoad();
        int[] first = {20, 1, 2, 2, 1, 20, 50, 1, 1, 1, 5};
        for (int what = 0; what < first.length; what++) {
            Due.same("1: term " + what, x.term(what), first[what]);
        }
        for (int what = 0; what < 6; what++) {
            Due.same("1: count " + what, x.count(what), 0);
        }
        Due.noPlace("1: place", () -> x.place(0, 0));
        for (int road = 0; road < 4; road++) {
            int which = road;
            Due.cannot("1: road", () -> x.road(which, 0));
        }
        Due.same("1: fault", x.fault(), -1);
        Due.same("1: end(0)", x.end(0), true);
        Due.same("1: end(1)", x.end(1), false);
        Due.cannot("1: undo", x::undo);
        Due.same("1: back", x.back(), false);
    }

    private static void promise2Feed() {
        GentleRoad x = new GentleRoad();
        for (int k = 1; k <= 20; k++) {
            Due.same("2: feed", x.feed(k, k, k, k, k), 20 * k);
        }
        Due.same("2: feed beyond 400", x.feed(0, 0, 0, 0, 0), -1);
        Due.same("2: 400 stay", x.end(401), false);
        Due.same("2: 400 stay", x.end(400), true);
        Due.same("2: cut", x.end(381), true);
        Due.same("2: 381 and 20 are too many", x.feed(0, 0, 0, 0, 0), -1);
        Due.same("2: cut", x.end(380), true);
        Due.same("2: 380 and 20 are not", x.feed(0, 0, 0, 0, 0), 400);
        GentleRoad y = Due.land(Due.level(9, 9, 0, ""));
        // 0x00010203: the highest byte first
        y.feed(0x00010203, 0x04050000, 0, 0, 0);
        y.end(6);
        Due.same("2: highest first", y.round(), 10 * 10);
        y.feed(-1, 0, 0, 0, 0);
        y.end(2);
        Due.wrongNumber("2: a byte above 127 is no place", y::round);
    }

    private static void promise3End() {
        GentleRoad x = new GentleRoad();
        x.feed(1, 2, 3, 4, 5);
        Due.same("3: below 0", x.end(-1), false);
        Due.same("3: more than it has", x.end(21), false);
        Due.same("3: far more", x.end(Integer.MAX_VALUE), false);
        Due.same("3: far below", x.end(Integer.MIN_VALUE), false);
        Due.same("3: nothing happened", x.end(20), true);
        Due.same("3: fewer", x.end(7), true);
        Due.same("3: more than it has now", x.end(8), false);
        Due.same("3: those come behind", x.feed(1, 2, 3, 4, 5), 27);
        Due.same("3: none", x.end(0), true);
        Due.same("3: from the begin again", x.feed(1, 2, 3, 4, 5), 20);
    }

    private static void promise4Land() {
        GentleRoad x = new GentleRoad();
        Due.tell(x, "  land 3   2 ;row 0 10 99; row 1 2 03 ;wet 5;spoil 30;grade 7 ; wet 0;bend 4;flat 99;rise 9;turn 8"
                + ";hair 98;bore 97;depth 3;dig 6;fill 5;wet 1 ");
        Due.same("4: six places", x.land(), 6);
        int[] heights = {0, 10, 99, 1, 2, 3};
        int[] wet = {1, 1, 0, 0, 0, 1};
        int[] terms = {7, 4, 99, 9, 8, 98, 97, 3, 6, 5, 30};
        for (int place = 0; place < 6; place++) {
            Due.same("4: height", x.place(place, 0), heights[place]);
            Due.same("4: wet", x.place(place, 1), wet[place]);
        }
        for (int what = 0; what < 11; what++) {
            Due.same("4: term", x.term(what), terms[what]);
        }
        Due.same("4: the tape is used up", x.end(1), false);
        Due.tell(x, "land2 2;row1 2;row3 4;wet0;dig9");
        Due.same("4: blanks may lack", x.land(), 4);
        Due.same("4: wet", x.count(2), 1);
        Due.same("4: as at first", x.term(0), 20);
        Due.same("4: as told", x.term(8), 9);
        Due.tell(x, Due.level(9, 9, 99, ""));
        Due.same("4: the greatest", x.land(), 81);
        x.build(1, 0, 80);
        x.tune(1, 2);
        Due.tell(x, "land 2 2;row 1 2;row 3");
        Due.wrongNumber("4: wrong", x::land);
        Due.same("4: the tape is used up", x.end(1), false);
        Due.same("4: the land stays", x.count(0), 9);
        Due.same("4: roads stay", x.count(3), 2);
        Due.same("4: terms stay", x.term(1), 2);
        Due.same("4: acts stay", x.count(4), 2);
        Due.tell(x, FOUR);
        Due.same("4: land", x.land(), 4);
        Due.same("4: no road is built", x.count(3), 0);
        Due.same("4: none are remembered", x.count(4), 0);
        Due.same("4: terms as at first", x.term(1), 1);
        Due.tell(x, FOUR + ";wet 0");
        x.land();
        Due.tell(x, FOUR);
        x.land();
        Due.same("4: wet no more", x.count(2), 0);
    }

    private static void wrongAt(String text, int want) {
        GentleRoad x = new GentleRoad();
        Due.tell(x, text);
        if (want == -1) {
            Due.same("5: " + text, x.land() > 0, true);
        } else {
            Due.wrongNumber("5: " + text, x::land);
        }
        Due.same("5: fault of " + text, x.fault(), want);
    }

    private static void promise5Fault() {
        wrongAt("", 0);
        wrongAt("   ", 3);
        wrongAt(" lands 2 2", 1);
        wrongAt("lan 2 2", 0);
        wrongAt("Land 2 2", 0);
        wrongAt("land", 4);
        wrongAt("land ", 5);
        wrongAt("land 1 2", 5);
        wrongAt("land 10 2", 5);
        wrongAt("land 02 2;row 1 1;row 1 1", -1);
        wrongAt("land 002 2", 5);
        wrongAt("land 22", 5);
        wrongAt("land 2", 6);
        wrongAt("land 2;", 6);
        wrongAt("land 2 2 2", 9);
        wrongAt("land 2 2", 8);
        wrongAt("land 2 2  ", 10);
        wrongAt("land 2 2;", 9);
        wrongAt("land 2 1;row 1 1", 7);
        wrongAt("land 2 10", 7);
        wrongAt("land 2 2; wet 1", 10);
        wrongAt("land 2 2;rows 1 2", 9);
        wrongAt("land 2 2;row;", 12);
        wrongAt("land 2 2;row 1;row 1 1", 14);
        wrongAt("land 2 2;row 1 100;row 1 1", 15);
        wrongAt("land 2 2;row 1 2 3;row 1 1", 17);
        wrongAt("land 2 2;row 1 2;", 17);
        wrongAt("land 2 2;row 1 2,row 1 2", 16);
        wrongAt(FOUR, -1);
        wrongAt(FOUR + "  ", -1);
        wrongAt(FOUR + ";", 25);
        wrongAt(FOUR + " ; ", 27);
        wrongAt(FOUR + ";row 1 2", 25);
        wrongAt(FOUR + ";wet", 28);
        wrongAt(FOUR + ";wet 4", 29);
        wrongAt(FOUR + ";wet 3", -1);
        wrongAt(FOUR + ";wet 3;wet 3", 35);
        wrongAt(FOUR + ";wet 3 2", 31);
        wrongAt(FOUR + ";wets 3", 25);
        wrongAt(FOUR + ";5", 25);
        wrongAt(FOUR + ";;", 25);
        wrongAt(FOUR + ";grade 0", 31);
        wrongAt(FOUR + ";grade 1;grade 2", 33);
        wrongAt(FOUR + ";bend 5", 30);
        wrongAt(FOUR + ";flat 100", 30);
        wrongAt(FOUR + ";rise 10", 30);
        wrongAt(FOUR + ";turn 10", 30);
        wrongAt(FOUR + ";depth 4", 31);
        wrongAt(FOUR + ";dig 10", 29);
        wrongAt(FOUR + ";fill 10", 30);
        wrongAt(FOUR + ";spoil 31", 31);
        wrongAt(FOUR + ";spoil -1", 31);
        wrongAt(FOUR + (char) 0, 24);
        wrongAt(FOUR + (char) 9, 24);
        wrongAt(FOUR + (char) 233, 24);
        String more = ";wet 0;wet 1;wet 2;grade 1;bend 1;flat 1;rise 1;turn 1;hair 1;bore 1;depth 1;dig 1;fill 1;spoil 1";
        wrongAt(FOUR + more, -1);
        wrongAt(FOUR + more + ";", FOUR.length() + more.length() + 1);
        wrongAt(FOUR + more + "; wet 3", FOUR.length() + more.length() + 2);
        wrongAt(FOUR + more + ";dig 1", FOUR.length() + more.length() + 1);
        wrongAt(FOUR + more + " 7", FOUR.length() + more.length() + 1);
        GentleRoad x = new GentleRoad();
        Due.tell(x, "land 1");
        Due.wrongNumber("5: wrong", x::land);
        Due.tellBytes(x, 1, 2);
        Due.wrongNumber("5: no text is read by round", x::round);
        Due.same("5: fault stays", x.fault(), 5);
        x.image();
        Due.tell(x, FOUR);
        x.land();
        Due.same("5: without one", x.fault(), -1);
        Due.tell(x, "x");
        Due.wrongNumber("5: wrong", x::land);
        x.back();
        Due.same("5: fault is not gone back to", x.fault(), 0);
    }

    private static void promise6Place() {
        GentleRoad x = Due.land("land 3 3;row 5 5 8;row 5 7 5;row 5 5 5;wet 1;grade 30;flat 2");
        Due.same("6: height", x.place(2, 0), 8);
        Due.same("6: wet", x.place(1, 1), 1);
        Due.same("6: not wet", x.place(0, 1), 0);
        Due.same("6: hairpin by just 2", x.place(0, 2), 1);
        Due.same("6: no hairpin by 3", x.place(1, 2), 0);
        Due.same("6: wet ones' heights count", x.place(2, 2), 0);
        Due.same("6: hairpin in the middle", x.place(4, 2), 1);
        // from 0: east is wet, south-east 2 apart, south even
        Due.same("6: steps of 0", x.place(0, 3), 8 + 16);
        Due.same("6: steps of a wet one", x.place(1, 3), 0);
        // from 2 of height 8: south 3 apart is just not steep by 30, west is wet, south-west 1 apart
        Due.same("6: steps of 2", x.place(2, 3), 16 + 32);
        Due.same("6: steps of 4", x.place(4, 3), 255 - 1);
        x.flood(3, true);
        // between 0 and 4 now both are wet
        Due.same("6: no step between two wet ones", x.place(0, 3), 0);
        Due.same("6: no step back", x.place(4, 3), 255 - 1 - 64 - 128);
        x.tune(0, 29);
        Due.same("6: steep now", x.place(2, 3), 32);
        x.tune(2, 3);
        Due.same("6: a wet one may be flat", x.place(1, 2), 1);
        x.tune(0, 20);
        // 2 apart: 200 is just not above 20 times 10, and below 20 times 14
        Due.same("6: just not steep", x.place(8, 3), 1 + 64 + 128);
        x.tune(0, 19);
        Due.same("6: 200 is above 190, not above 266", x.place(5, 3), 16 + 32);
        x.tune(0, 14);
        Due.same("6: 200 is above 14 times 14", x.place(8, 3), 1 + 64);
        Due.noPlace("6: no place", () -> x.place(9, 0));
        Due.noPlace("6: no place is told first", () -> x.place(-1, 9));
        Due.noSuch("6: what", () -> x.place(0, 4));
        Due.noSuch("6: what", () -> x.place(0, -1));
        GentleRoad corner = Due.land("land 2 2;row 0 0;row 0 0;wet 1");
        Due.same("6: one wet beside is none of both", corner.place(0, 3), 8 + 16);
    }

    private static void promise7Term() {
        GentleRoad x = new GentleRoad();
        Due.noSuch("7: what", () -> x.term(-1));
        Due.noSuch("7: what", () -> x.term(11));
        Due.tell(x, FOUR + ";hair 33;bore 44");
        x.land();
        Due.same("7: hair", x.term(5), 33);
        Due.same("7: bore", x.term(6), 44);
        Due.same("7: spoil", x.term(10), 5);
    }

    private static void promise8Tune() {
        GentleRoad x = new GentleRoad();
        int[] least = {1, 0, 0, 0, 0, 0, 0, 0, 0, 0, 0};
        int[] most = {99, 4, 99, 9, 9, 99, 99, 3, 9, 9, 30};
        for (int what = 0; what < 11; what++) {
            int which = what;
            int old = x.term(what);
            Due.wrongNumber("8: below", () -> x.tune(which, least[which] - 1));
            Due.wrongNumber("8: above", () -> x.tune(which, most[which] + 1));
            Due.same("8: stays", x.term(what), old);
            Due.same("8: was", x.tune(what, least[what]), old);
            Due.same("8: is", x.term(what), least[what]);
            Due.same("8: was", x.tune(what, most[what]), least[what]);
            Due.same("8: is", x.term(what), most[what]);
        }
        Due.noSuch("8: what is told first", () -> x.tune(11, -5));
        Due.noSuch("8: what", () -> x.tune(-1, 1));
        Due.wrongNumber("8: n", () -> x.tune(0, Integer.MIN_VALUE));
        Due.same("8: acts", x.count(4), 8);
    }

    private static void promise9Raise() {
        GentleRoad x = Due.land("land 2 2;row 0 2;row 50 99");
        Due.same("9: up", x.raise(0, 99), 99);
        Due.same("9: down", x.raise(0, -99), 0);
        Due.same("9: by none", x.raise(1, 0), 2);
        Due.same("9: acts", x.count(4), 3);
        Due.same("9: height", x.place(1, 0), 2);
        Due.wrongNumber("9: below 0", () -> x.raise(1, -3));
        Due.wrongNumber("9: above 99", () -> x.raise(2, 50));
        Due.wrongNumber("9: n", () -> x.raise(0, 100));
        Due.wrongNumber("9: n", () -> x.raise(3, -100));
        Due.wrongNumber("9: n", () -> x.raise(0, Integer.MAX_VALUE));
        Due.wrongNumber("9: n", () -> x.raise(3, Integer.MIN_VALUE));
        Due.noPlace("9: place is told first", () -> x.raise(4, 100));
        Due.noPlace("9: place", () -> x.raise(-1, 0));
        Due.same("9: nothing changed", x.count(4), 3);
    }

    private static void promise10Flood() {
        GentleRoad x = Due.land(FOUR + ";wet 1");
        Due.same("10: wet already", x.flood(1, true), false);
        Due.same("10: dry", x.flood(1, false), true);
        Due.same("10: dry already", x.flood(1, false), false);
        Due.same("10: is dry", x.place(1, 1), 0);
        Due.same("10: wet", x.flood(3, true), true);
        Due.same("10: is wet", x.place(3, 1), 1);
        Due.same("10: each is an act", x.count(4), 4);
        Due.noPlace("10: place", () -> x.flood(4, true));
        Due.noPlace("10: place", () -> x.flood(-1, true));
    }

    private static void promise14Undo() {
        GentleRoad x = Due.land(FOUR);
        Due.cannot("14: none", x::undo);
        for (int k = 1; k <= 9; k++) {
            x.tune(5, k);
        }
        Due.same("14: eight are remembered", x.count(4), 8);
        for (int k = 8; k >= 1; k--) {
            Due.same("14: left", x.undo(), k - 1);
            Due.same("14: as ahead of it", x.term(5), k);
        }
        Due.cannot("14: the first went", x::undo);
        Due.same("14: and stays", x.term(5), 1);
        x.tune(5, 50);
        x.tune(5, 60);
        x.undo();
        x.tune(5, 70);
        Due.same("14: two", x.count(4), 2);
        x.undo();
        Due.same("14: as ahead of 70", x.term(5), 50);
        x.undo();
        Due.same("14: as ahead of 50", x.term(5), 1);
        x.feed(0, 0, 0, 0, 0);
        x.tune(5, 2);
        x.image();
        x.feed(0, 0, 0, 0, 0);
        x.undo();
        Due.same("14: the tape is not taken back", x.end(40), true);
        x.back();
        Due.same("14: the image is not taken back", x.term(5), 2);
        Due.cannot("14: going back forgets", x::undo);
        Due.wrongNumber("14: a throw", () -> x.tune(5, 100));
        Due.same("14: is no act", x.count(4), 0);
    }

    private static void promise14UndoOfEachAct() {
        GentleRoad x = Due.land("land 4 2;row 0 1 3 2;row 9 9 9 9");
        x.build(0, 0, 3);
        x.level(0, 10);
        Due.same("14: levelled", Due.offsets(x, 0), "0 0 -1 0");
        x.build(0, 1, 2);
        Due.same("14: built anew", Due.places(x, 0) + ", " + Due.offsets(x, 0), "1 2, 0 0");
        x.undo();
        Due.same("14: road and offsets", Due.places(x, 0) + ", " + Due.offsets(x, 0), "0 1 2 3, 0 0 -1 0");
        x.drop(0);
        x.undo();
        Due.same("14: not dropped", Due.places(x, 0) + ", " + Due.offsets(x, 0), "0 1 2 3, 0 0 -1 0");
        x.undo();
        Due.same("14: not levelled", Due.offsets(x, 0), "0 0 0 0");
        x.undo();
        Due.same("14: not built", x.count(3), 0);
        x.raise(0, 5);
        x.flood(0, true);
        x.flood(0, true);
        Due.same("14: a flood that changed nothing", x.undo() + " " + x.place(0, 1), "2 1");
        Due.same("14: a flood", x.undo() + " " + x.place(0, 1), "1 0");
        Due.same("14: a raise", x.undo() + " " + x.place(0, 0), "0 0");
        Due.cannot("14: a road that cannot be is no act", () -> x.build(0, 0, 7));
        Due.same("14: no act", x.count(4), 0);
    }

    private static void promise32And33Image() {
        GentleRoad x = new GentleRoad();
        Due.same("33: none was kept", x.back(), false);
        x.tune(0, 33);
        x.image();
        Due.tell(x, "land 4 2;row 0 1 3 2;row 9 9 9 9;wet 7");
        x.land();
        Due.same("33: without a land", x.back(), true);
        Due.same("33: none", x.count(0) + " " + x.count(2) + " " + x.term(0), "0 0 33");
        Due.noPlace("33: no place", () -> x.best(0, 1, 0));
        Due.tell(x, "land 4 2;row 0 1 3 2;row 9 9 9 9;wet 7");
        x.land();
        x.build(0, 0, 3);
        x.level(0, 10);
        x.build(2, 3, 0);
        x.image();
        Due.same("32: acts stay", x.count(4), 3);
        x.level(0, 99);
        x.drop(2);
        x.build(3, 1, 0);
        x.raise(7, -9);
        x.flood(7, false);
        x.tune(3, 0);
        Due.tell(x, FOUR);
        Due.same("33: back", x.back(), true);
        Due.same("33: tape stays", x.end(FOUR.length()), true);
        Due.same("33: roads", x.count(3), 5);
        Due.same("33: offsets", Due.offsets(x, 0), "0 0 -1 0");
        Due.same("33: land", x.place(7, 0) + " " + x.place(7, 1) + " " + x.term(3), "9 1 2");
        Due.same("33: none are remembered", x.count(4), 0);
        x.land();
        Due.same("33: another land", x.count(0), 2);
        Due.same("33: back again", x.back(), true);
        Due.same("33: wide", x.count(0), 4);
        Due.same("33: the way as it was", Due.way(x, 0, 3, 0), "0 1 2 3");
        Due.same("33: the road as it was", Due.places(x, 2), "3 2 1 0");
        x.drop(0);
        x.image();
        x.drop(2);
        x.back();
        Due.same("32: one image", x.count(3), 4);
    }

    private static void promise34Count() {
        GentleRoad x = Due.land("land 3 2;row 0 2 9;row 0 1 2;wet 1;wet 5;grade 99");
        Due.same("34: wide", x.count(0), 3);
        Due.same("34: deep", x.count(1), 2);
        Due.same("34: wet", x.count(2), 2);
        Due.same("34: built", x.count(3), 0);
        x.build(0, 0, 3);
        x.build(3, 3, 0);
        Due.same("34: built", x.count(3), 9);
        Due.same("34: acts", x.count(4), 2);
        Due.same("34: sinks", x.count(5), 2);
        x.raise(0, 1);
        Due.same("34: sinks", x.count(5), 1);
        Due.same("34: another", x.count(6), -1);
        Due.same("34: another", x.count(-1), -1);
        Due.same("34: all of one height are sinks", Due.land(Due.level(9, 9, 4, "")).count(5), 81);
    }
}

import java.util.Random;

/** Roads of up to 40 places, deep cuttings and high banks, measured by Plain. */
public final class LongRoadsTest {
    private LongRoadsTest() {
    }

    public static void main(String[] args) {
        for (int run = 0; run < 12; run++) {
            go(new Random(run), run);
        }
        System.out.println(Both.calls() + " calls, " + Both.wrong() + " runs went wrong");
        if (Both.wrong() != 0) {
            System.exit(1);
        }
    }

    private static void go(Random chance, int run) {
        Both both = new Both();
        StringBuilder text = new StringBuilder("land 9 9");
        for (int row = 0; row < 9; row++) {
            text.append(";row");
            for (int column = 0; column < 9; column++) {
                text.append(' ').append(4 + chance.nextInt(1 + run % 6));
            }
        }
        text.append(";grade 99;bend 4;turn 1;rise ").append(run % 3);
        text.append(";depth ").append(run % 2 == 0 ? 3 : 2).append(";spoil ").append(run * 11 % 31);
        text.append(";dig ").append(chance.nextInt(4)).append(";fill ").append(chance.nextInt(4));
        both.tell(text.toString());
        both.call("land");
        for (int row = 1; row < 9; row += 2) {
            for (int column = 0; column < 9; column++) {
                if (column != (row % 4 == 1 ? 8 : 0)) {
                    both.call("flood", row * 9 + column, 1);
                }
            }
        }
        both.call("build", 0, 0, 80);
        both.call("build", 1, 0, 79);
        both.call("build", 2, 80, 1);
        both.call("build", 3, 60, 20);
        for (int road = 1; road < 4; road++) {
            for (int rule : new int[] {0, 10, 15, 20, 30, 50}) {
                both.call("earth", road, rule);
                both.call("level", road, rule);
                for (int k = 0; k < 41 && (rule == 10 || rule == 30); k++) {
                    both.call("at", road, k, 1);
                }
            }
            for (int what = 0; what < 15; what++) {
                both.call("road", road, what);
            }
            for (int n = 1; n <= 6; n++) {
                both.call("stages", road, n);
            }
            both.call("common", road, road % 3 + 1);
        }
        both.call("spare", 0, 80, 0);
        both.call("spare", 0, 80, 1);
        both.call("gate", 0, 80);
        both.call("best", 0, 80, 4);
        both.call("along", 0, 80, 5, 40);
        both.call("joins", 0, 3, 1);
        both.call("bored", 0, 80, 3);
    }
}

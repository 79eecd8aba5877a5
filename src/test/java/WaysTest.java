/** Promises 13 to 16: way, step, through, below. */
public final class WaysTest {
    private static final Check check = new Check();
    private static final int E = Check.EVEN;

    public static void main(String[] args) {
        wayShape();
        wayOfAmounts();
        wayGain();
        wayMarked();
        wayWrong();
        step();
        through();
        below();
        check.end();
    }

    /** 0 over 1, 2, 3; 1 over 4; 3 over 5, 6; 6 over 7. Chains: 0 3 6 7, 1 4, 2, 5. */
    private static HeavyChains tree() {
        return Check.laid("p0001336;w12345678;f23456789;g98765432;");
    }

    private static void wayShape() {
        HeavyChains x = tree();
        int[][] due = {{4, 7, 6, 2, 0}, {7, 4, 6, 2, 0}, {5, 7, 4, 2, 3}, {5, 2, 4, 3, 0}, {7, 0, 4, 1, 0},
            {0, 7, 4, 1, 0}, {6, 6, 1, 1, 6}, {3, 5, 2, 2, 3}, {5, 4, 5, 3, 0}, {1, 2, 3, 3, 0}};
        for (int[] d : due) {
            for (int what = 0; what < 3; what++) {
                check.due("13: way(" + d[0] + ", " + d[1] + ", " + what + ")", x.way(d[0], d[1], what), d[2 + what]);
            }
        }
    }

    private static void wayOfAmounts() {
        HeavyChains x = tree();
        check.due("13: sum", x.way(5, 7, 3), E + 25);
        check.due("13: greatest", x.way(5, 7, 4), E + 8);
        check.due("13: least", x.way(5, 7, 5), E + 4);
        x.set(3, -9999);
        x.set(5, -9999);
        x.set(6, -9998);
        x.set(7, -9999);
        check.due("13: sum below 0", x.way(5, 7, 3), E - 39995);
        check.due("13: greatest below 0", x.way(5, 7, 4), E - 9998);
        check.due("13: least below 0", x.way(5, 7, 5), E - 9999);
        x.set(5, 9999);
        check.due("13: of one post, greatest", x.way(5, 5, 4), E + 9999);
        check.due("13: of one post, least", x.way(5, 5, 5), E + 9999);
    }

    private static void wayGain() {
        HeavyChains x = Check.laid("p012;w3817;");
        check.due("13: gain there", x.way(0, 3, 6), 6);
        check.due("13: gain back", x.way(3, 0, 6), 7);
        check.due("13: gain of one", x.way(2, 2, 6), 0);
        x = Check.laid("p012;w9621;");
        check.due("13: no gain there", x.way(0, 3, 6), 0);
        check.due("13: gain back, all", x.way(3, 0, 6), 8);
        x.set(0, -9999);
        x.set(3, 9999);
        check.due("13: the greatest gain of all", x.way(0, 3, 6), 19998);
        check.due("13: back it is less", x.way(3, 0, 6), 4);
    }

    private static void wayMarked() {
        HeavyChains x = tree();
        check.due("13: none marked", x.way(4, 7, 7), 0);
        x.mark(3, 6, 1);
        x.mark(5, 5, 1);
        check.due("13: two marked", x.way(4, 7, 7), 2);
        check.due("13: three marked", x.way(5, 7, 7), 3);
        check.due("13: none of these", x.way(4, 2, 7), 0);
    }

    private static void wayWrong() {
        HeavyChains x = tree();
        int[][] wrong = {{-1, 0, 0}, {8, 0, 0}, {0, -1, 0}, {0, 8, 0}, {0, 0, -1}, {0, 0, 8}};
        for (int[] w : wrong) {
            check.due("13: way wrong", x.way(w[0], w[1], w[2]), Check.BAD);
        }
    }

    private static void step() {
        HeavyChains x = tree();
        int[] way = {4, 1, 0, 3, 6, 7};
        for (int k = 0; k < way.length; k++) {
            check.due("14: step(4, 7, " + k + ")", x.step(4, 7, k), way[k]);
            check.due("14: step(7, 4, " + k + ")", x.step(7, 4, k), way[5 - k]);
        }
        check.due("14: step(4, 7, 6)", x.step(4, 7, 6), Check.NONE);
        check.due("14: step, far too many", x.step(4, 7, Integer.MAX_VALUE), Check.NONE);
        check.due("14: step(2, 2, 0)", x.step(2, 2, 0), 2);
        check.due("14: step(2, 2, 1)", x.step(2, 2, 1), Check.NONE);
        int[][] wrong = {{-1, 0, 0}, {8, 0, 0}, {0, -1, 0}, {0, 8, 0}, {0, 0, -1}, {8, 0, 99}};
        for (int[] w : wrong) {
            check.due("14: step wrong", x.step(w[0], w[1], w[2]), Check.BAD);
        }
    }

    /** Factors 2 .. 9 and shifts 9 .. 2 of posts 0 .. 7. */
    private static void through() {
        HeavyChains x = tree();
        check.due("15: one post", x.through(0, 0, 10), 29);
        check.due("15: 10 through 1, 0: 38, 85", x.through(1, 0, 10), 85);
        check.due("15: 10 through 0, 1: 29, 95", x.through(0, 1, 10), 95);
        check.due("15: 96 through 5, 3, 6: (672+4)%97, (5*94+6)%97, (8*88+3)%97", x.through(5, 6, 96), 28);
        check.due("15: 0", x.through(0, 0, 0), 9);
        check.due("15: x = -1", x.through(0, 0, -1), Check.BAD);
        check.due("15: x = 97", x.through(0, 0, 97), Check.BAD);
        check.due("15: u = -1", x.through(-1, 0, 0), Check.BAD);
        check.due("15: u = 8", x.through(8, 0, 0), Check.BAD);
        check.due("15: v = -1", x.through(0, -1, 0), Check.BAD);
        check.due("15: v = 8", x.through(0, 8, 0), Check.BAD);
        x.shape(3, 0, 0);
        check.due("15: a nought on the way", x.through(5, 6, 96), 3);
    }

    private static void below() {
        HeavyChains x = tree();
        check.due("16: sum below 3", x.below(3, 0), E + 25);
        check.due("16: sum below 0", x.below(0, 0), E + 36);
        check.due("16: sum below 2", x.below(2, 0), E + 3);
        check.due("16: greatest below 1", x.below(1, 1), E + 5);
        x.set(2, -9999);
        check.due("16: greatest, below 0", x.below(2, 1), E - 9999);
        check.due("16: sum, below 0", x.below(2, 0), E - 9999);
        x.mark(0, 5, 1);
        check.due("16: marked below 3", x.below(3, 2), 2);
        check.due("16: marked below 0", x.below(0, 2), 3);
        check.due("16: marked below 1", x.below(1, 2), 0);
        int[][] wrong = {{-1, 0}, {8, 0}, {0, -1}, {0, 3}};
        for (int[] w : wrong) {
            check.due("16: below wrong", x.below(w[0], w[1]), Check.BAD);
        }
    }
}

/** Promises 8 to 12: add, pour, set, shape, undo. */
public final class ActsTest {
    private static final Check check = new Check();
    private static final int E = Check.EVEN;

    public static void main(String[] args) {
        addKinds();
        addAlongWayOnly();
        addEdges();
        addWrong();
        pour();
        pourEdges();
        pourWrong();
        set();
        shape();
        undoEach();
        undoLastEight();
        undoLeavesMarksAndWatches();
        check.end();
    }

    private static HeavyChains small() {
        return Check.laid("p001;w5432;");
    }

    private static void addKinds() {
        HeavyChains x = small();
        check.due("8: plain", x.add(3, 2, 10, 0), E + 14 + 40);
        check.due("8: plain, less", x.add(1, 1, -15, 0), E - 1);
        check.due("8: twice", x.add(0, 0, -10, 1), E - 5);
        check.due("8: dry lifts to 0", x.add(0, 0, 3, 2), E);
        check.due("8: dry", x.add(3, 3, -5, 2), E + 7);
        check.due("8: dry, 0 at least", x.add(3, 3, -8, 2), E);
        check.due("8: lean, cut towards 0", x.add(2, 2, -7, 3), E + 10);
        check.due("8: lean, cut towards 0 above", x.add(2, 2, 7, 3), E + 13);
        check.due("8: lean by nothing lifts to 0", x.add(1, 1, 1, 3), E);
        check.due("8: lean, 0 at least", x.add(2, 2, -30, 3), E);
    }

    private static void addAlongWayOnly() {
        HeavyChains x = small();
        check.due("8: way 3 1 0 2", x.add(3, 2, 1, 0), E + 18);
        x = small();
        check.due("8: way 3 1", x.add(3, 1, 1, 0), E + 8);
        int[] due = {5, 5, 3, 3};
        for (int i = 0; i < 4; i++) {
            check.due("8: post(" + i + ", 6)", x.post(i, 6), E + due[i]);
        }
    }

    private static void addEdges() {
        HeavyChains x = small();
        x.set(0, 9000);
        check.due("8: up to 9999", x.add(0, 0, 999, 0), E + 9999);
        check.due("8: over it", x.add(0, 1, 1, 0), Check.NO);
        check.due("8: over it, dry", x.add(1, 0, 1, 2), Check.NO);
        check.due("8: over it, lean", x.add(1, 0, 2, 3), Check.NO);
        check.due("8: the other one is as it was", x.post(1, 6), E + 4);
        check.due("8: not over it, lean", x.add(0, 0, 1, 3), E + 9999);
        x.set(0, -9000);
        check.due("8: down to -9999", x.add(0, 0, -999, 0), E - 9999);
        check.due("8: under it", x.add(3, 0, -1, 0), Check.NO);
        check.due("8: under it, twice", x.add(3, 0, -1, 1), Check.NO);
        check.due("8: not under it, dry", x.add(0, 0, -999, 2), E);
        check.due("8: nothing changed behind NO", x.post(3, 6), E + 2);
        x.set(0, 8001);
        check.due("8: twice to 9999", x.add(0, 0, 999, 1), E + 9999);
        check.due("8: acts so far", x.count(5), 8);
    }

    private static void addWrong() {
        HeavyChains x = small();
        int[][] wrong = {{-1, 0, 1, 0}, {4, 0, 1, 0}, {0, -1, 1, 0}, {0, 4, 1, 0}, {0, 0, 1000, 0}, {0, 0, -1000, 0},
            {0, 0, 1, -1}, {0, 0, 1, 4}};
        for (int[] w : wrong) {
            check.due("8: add wrong", x.add(w[0], w[1], w[2], w[3]), Check.BAD);
        }
        check.due("8: count(5)", x.count(5), 0);
        check.due("8: count(8)", x.count(8), E + 14);
        x.set(0, 9999);
        check.due("8: bad ahead of no", x.add(0, 0, 999, 4), Check.BAD);
    }

    private static void pour() {
        HeavyChains x = small();
        check.due("9: pour(1, 10, 0)", x.pour(1, 10, 0), E + 26);
        check.due("9: post(0, 6)", x.post(0, 6), E + 5);
        check.due("9: post(2, 6)", x.post(2, 6), E + 3);
        check.due("9: pour(1, -13, 2)", x.pour(1, -13, 2), E + 1);
        check.due("9: pour(0, 3, 1)", x.pour(0, 3, 1), E + 33);
        check.due("9: pour(0, -9, 3)", x.pour(0, -9, 3), E + 17);
        check.due("9: pour(3, -999, 0)", x.pour(3, -999, 0), E - 997);
        check.due("9: count(5)", x.count(5), 5);
    }

    private static void pourEdges() {
        HeavyChains x = small();
        x.set(3, 9999);
        check.due("9: over it", x.pour(0, 1, 0), Check.NO);
        check.due("9: nothing changed", x.count(8), E + 10011);
        check.due("9: beside it", x.pour(2, 1, 0), E + 4);
        x.set(3, -9999);
        check.due("9: under it", x.pour(1, -1, 0), Check.NO);
        check.due("9: dry", x.pour(1, -1, 2), E + 3);
    }

    private static void pourWrong() {
        HeavyChains x = small();
        int[][] wrong = {{-1, 1, 0}, {4, 1, 0}, {0, 1000, 0}, {0, -1000, 0}, {0, 1, -1}, {0, 1, 4}};
        for (int[] w : wrong) {
            check.due("9: pour wrong", x.pour(w[0], w[1], w[2]), Check.BAD);
        }
        check.due("9: count(5)", x.count(5), 0);
        check.due("9: pour(0, 999, 0)", x.pour(0, 999, 0), E + 14 + 4 * 999);
    }

    private static void set() {
        HeavyChains x = small();
        check.due("10: set(1, 9999)", x.set(1, 9999), E + 4);
        check.due("10: set(1, -9999)", x.set(1, -9999), E + 9999);
        check.due("10: set(1, -9999) again", x.set(1, -9999), Check.NO);
        check.due("10: set(1, 0)", x.set(1, 0), E - 9999);
        check.due("10: count(5)", x.count(5), 3);
        check.due("10: set(-1, 0)", x.set(-1, 0), Check.BAD);
        check.due("10: set(4, 0)", x.set(4, 0), Check.BAD);
        check.due("10: set(0, 10000)", x.set(0, 10000), Check.BAD);
        check.due("10: set(0, -10000)", x.set(0, -10000), Check.BAD);
        check.due("10: post(0, 6)", x.post(0, 6), E + 5);
        check.due("10: post(1, 6)", x.post(1, 6), E);
    }

    private static void shape() {
        HeavyChains x = Check.laid("p001;f12;g34;");
        check.due("11: shape(0, 9, 0)", x.shape(0, 9, 0), 13);
        check.due("11: shape(0, 9, 0) again", x.shape(0, 9, 0), Check.NO);
        check.due("11: shape(0, 9, 9), the shift alone", x.shape(0, 9, 9), 90);
        check.due("11: shape(0, 0, 9), the factor alone", x.shape(0, 0, 9), 99);
        check.due("11: shape(3, 0, 0)", x.shape(3, 0, 0), 10);
        check.due("11: post(1, 7)", x.post(1, 7), 2);
        check.due("11: post(0, 7)", x.post(0, 7), 0);
        check.due("11: post(0, 8)", x.post(0, 8), 9);
        int[][] wrong = {{-1, 1, 1}, {4, 1, 1}, {0, -1, 1}, {0, 10, 1}, {0, 1, -1}, {0, 1, 10}};
        for (int[] w : wrong) {
            check.due("11: shape wrong", x.shape(w[0], w[1], w[2]), Check.BAD);
        }
        check.due("11: count(5)", x.count(5), 4);
    }

    private static void undoEach() {
        HeavyChains x = small();
        check.due("12: undo(), nothing", x.undo(), Check.NO);
        x.set(0, 50);
        x.add(0, 3, -20, 2);
        x.pour(1, 7, 1);
        x.shape(2, 8, 9);
        x.add(2, 2, 0, 0);
        check.due("12: undo() of an add of 0", x.undo(), 4);
        check.due("12: post(2, 7)", x.post(2, 7), 8);
        check.due("12: undo() of a shape", x.undo(), 3);
        check.due("12: post(2, 7)", x.post(2, 7), 1);
        check.due("12: post(2, 8)", x.post(2, 8), 0);
        check.due("12: undo() of a pour", x.undo(), 2);
        check.due("12: post(3, 6)", x.post(3, 6), E);
        check.due("12: undo() of an add", x.undo(), 1);
        check.due("12: post(3, 6)", x.post(3, 6), E + 2);
        check.due("12: post(0, 6)", x.post(0, 6), E + 50);
        check.due("12: undo() of a set", x.undo(), 0);
        check.due("12: post(0, 6)", x.post(0, 6), E + 5);
        check.due("12: undo(), nothing more", x.undo(), Check.NO);
    }

    private static void undoLastEight() {
        HeavyChains x = small();
        for (int k = 1; k <= 11; k++) {
            x.set(0, 100 + k);
            check.due("12: count(5) behind " + k, x.count(5), Math.min(k, 8));
        }
        for (int left = 7; left >= 0; left--) {
            check.due("12: undo()", x.undo(), left);
            check.due("12: post(0, 6)", x.post(0, 6), E + 103 + left);
        }
        check.due("12: undo(), the ninth", x.undo(), Check.NO);
        check.due("12: post(0, 6)", x.post(0, 6), E + 103);
        x.set(0, 9);
        check.due("12: undo() behind a new act", x.undo(), 0);
        check.due("12: post(0, 6)", x.post(0, 6), E + 103);
    }

    private static void undoLeavesMarksAndWatches() {
        HeavyChains x = small();
        x.set(0, 50);
        x.mark(0, 3, 1);
        x.watch(0, 0, 9);
        x.watch(0, 0, 90);
        x.settle();
        check.due("12: marks and watches are no acts", x.count(5), 1);
        check.due("12: undo()", x.undo(), 0);
        check.due("12: count(2)", x.count(2), 3);
        check.due("12: count(3)", x.count(3), 1);
        check.due("12: waits(0)", x.waits(0), 1);
    }
}

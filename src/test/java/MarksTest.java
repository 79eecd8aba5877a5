/** Promises 17 to 23: mark, turn, marked, nearest, watch, settle, waits. */
public final class MarksTest {
    private static final Check check = new Check();

    public static void main(String[] args) {
        mark();
        turn();
        marked();
        nearest();
        watch();
        watchesFull();
        settle();
        waits();
        check.end();
    }

    /** 0 over 1, 2, 3; 1 over 4; 3 over 5, 6; 6 over 7. The row: 0 3 6 7 5 1 4 2. */
    private static HeavyChains tree() {
        return Check.laid("p0001336;w12345678;");
    }

    private static void mark() {
        HeavyChains x = tree();
        check.due("17: mark(4, 3, 1)", x.mark(4, 3, 1), 4);
        check.due("17: mark(5, 2, 1), some are", x.mark(5, 2, 1), 2);
        check.due("17: mark(5, 2, 1), all are", x.mark(5, 2, 1), 0);
        check.due("17: mark(0, 7, 0), two were", x.mark(0, 7, 0), 2);
        check.due("17: mark(0, 7, 0), none is", x.mark(0, 7, 0), 0);
        check.due("17: count(2)", x.count(2), 4);
        int[][] wrong = {{-1, 0, 1}, {8, 0, 1}, {0, -1, 1}, {0, 8, 1}, {0, 0, -1}, {0, 0, 2}};
        for (int[] w : wrong) {
            check.due("17: mark wrong", x.mark(w[0], w[1], w[2]), Check.BAD);
        }
        check.due("17: count(2) still", x.count(2), 4);
        check.due("17: no act", x.count(5), 0);
    }

    private static void turn() {
        HeavyChains x = tree();
        check.due("18: turn(3)", x.turn(3), 4);
        check.due("18: turn(6)", x.turn(6), 2);
        check.due("18: turn(2)", x.turn(2), 3);
        check.due("18: turn(0)", x.turn(0), 5);
        check.due("18: below(3, 2)", x.below(3, 2), 2);
        check.due("18: turn(-1)", x.turn(-1), Check.BAD);
        check.due("18: turn(8)", x.turn(8), Check.BAD);
        check.due("18: count(2)", x.count(2), 5);
    }

    private static void marked() {
        HeavyChains x = tree();
        check.due("19: none", x.marked(0), Check.NONE);
        x.mark(7, 7, 1);
        x.mark(1, 1, 1);
        int[] due = {3, 3, 3, 3, 5, 5, Check.NONE, Check.NONE};
        for (int place = 0; place < due.length; place++) {
            check.due("19: marked(" + place + ")", x.marked(place), due[place]);
        }
        x.mark(2, 2, 1);
        check.due("19: the last place", x.marked(7), 7);
        check.due("19: marked(-1)", x.marked(-1), Check.BAD);
        check.due("19: marked(8)", x.marked(8), Check.BAD);
    }

    private static void nearest() {
        HeavyChains x = tree();
        check.due("20: none", x.nearest(0), Check.NONE);
        check.due("20: bad, none marked", x.nearest(8), Check.BAD);
        x.mark(7, 7, 1);
        check.due("20: the only one", x.nearest(4), 7);
        x.mark(2, 2, 1);
        check.due("20: nearer", x.nearest(4), 2);
        check.due("20: of several the lowest", x.nearest(3), 2);
        check.due("20: not the lowest, but nearer", x.nearest(6), 7);
        check.due("20: itself", x.nearest(7), 7);
        x.mark(0, 0, 1);
        check.due("20: above", x.nearest(3), 0);
        check.due("20: itself ahead of a lower one", x.nearest(2), 2);
        check.due("20: nearest(-1)", x.nearest(-1), Check.BAD);
        check.due("20: nearest(8)", x.nearest(8), Check.BAD);
    }

    private static void watch() {
        HeavyChains x = tree();
        check.due("21: the first", x.watch(0, 7, 9999), 0);
        check.due("21: the second", x.watch(7, 0, -9999), 1);
        int[][] wrong = {{-1, 0, 0}, {8, 0, 0}, {0, -1, 0}, {0, 8, 0}, {0, 0, 10000}, {0, 0, -10000}};
        for (int[] w : wrong) {
            check.due("21: watch wrong", x.watch(w[0], w[1], w[2]), Check.BAD);
        }
        check.due("21: count(3)", x.count(3), 2);
        check.due("21: count(4)", x.count(4), 2);
    }

    private static void watchesFull() {
        HeavyChains x = tree();
        for (int k = 0; k < 12; k++) {
            check.due("21: watch " + k, x.watch(0, 0, k < 5 ? 0 : 99), k);
        }
        check.due("21: full", x.watch(0, 0, 0), Check.FULL);
        check.due("21: bad ahead of full", x.watch(0, 8, 0), Check.BAD);
        check.due("21: settle()", x.settle(), 5);
        for (int k = 12; k < 17; k++) {
            check.due("21: watch " + k, x.watch(0, 0, 99), k);
        }
        check.due("21: full again", x.watch(0, 0, 99), Check.FULL);
        check.due("21: so far", x.count(4), 17);
        check.due("21: the last", x.waits(11), 16);
    }

    private static void settle() {
        HeavyChains x = tree();
        check.due("22: none wait", x.settle(), 0);
        x.watch(4, 1, 8);
        x.watch(4, 1, 7);
        x.watch(2, 2, -3);
        x.watch(5, 7, 26);
        check.due("22: two go, one is just so much", x.settle(), 2);
        check.due("22: none goes", x.settle(), 0);
        x.add(5, 5, 1, 0);
        check.due("22: one goes", x.settle(), 1);
        check.due("22: left", x.waits(0), 0);
        x.set(4, -9999);
        x.undo();
        x.set(1, 3);
        check.due("22: the last goes", x.settle(), 1);
        check.due("22: none waits", x.waits(-1), 0);
        check.due("22: so far", x.count(4), 4);
    }

    private static void waits() {
        HeavyChains x = tree();
        check.due("23: none", x.waits(-1), 0);
        check.due("23: waits(0)", x.waits(0), Check.NONE);
        x.watch(0, 0, 99);
        x.watch(0, 0, 0);
        x.watch(0, 0, 98);
        x.settle();
        check.due("23: two", x.waits(-1), 2);
        check.due("23: waits(0)", x.waits(0), 0);
        check.due("23: waits(1)", x.waits(1), 2);
        check.due("23: waits(2)", x.waits(2), Check.NONE);
        check.due("23: waits(12)", x.waits(12), Check.NONE);
        check.due("23: waits, far too many", x.waits(Integer.MAX_VALUE), Check.NONE);
        check.due("23: waits(-2)", x.waits(-2), Check.BAD);
    }
}

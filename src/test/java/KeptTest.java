/** Promises 27 to 29: keep, back, count. */
public final class KeptTest {
    private static final Check check = new Check();
    private static final int E = Check.EVEN;

    public static void main(String[] args) {
        keep();
        back();
        backLeavesMarksAndWatches();
        keepLeavesUndo();
        count();
        check.end();
    }

    private static void keep() {
        HeavyChains x = new HeavyChains();
        check.due("27: keep()", x.keep(), 1);
        check.due("27: keep()", x.keep(), 2);
        check.due("27: keep(), full", x.keep(), Check.FULL);
        check.due("27: count(6)", x.count(6), 2);
        check.due("27: back()", x.back(), 1);
        check.due("27: keep() again", x.keep(), 2);
        check.due("27: keep(), full again", x.keep(), Check.FULL);
    }

    private static void back() {
        HeavyChains x = new HeavyChains();
        check.due("28: back(), nothing", x.back(), Check.NO);
        x.keep();
        x.set(3, -50);
        x.shape(4, 9, 8);
        x.keep();
        x.pour(0, 7, 0);
        x.shape(4, 7, 6);
        check.due("28: count(5)", x.count(5), 4);
        check.due("28: back()", x.back(), 1);
        check.due("28: post(3, 6)", x.post(3, 6), E - 50);
        check.due("28: post(4, 7)", x.post(4, 7), 9);
        check.due("28: post(4, 8)", x.post(4, 8), 8);
        check.due("28: nothing is undone", x.count(5), 0);
        check.due("28: undo()", x.undo(), Check.NO);
        x.set(3, 1);
        check.due("28: back()", x.back(), 0);
        check.due("28: post(3, 6)", x.post(3, 6), E + 2);
        check.due("28: post(4, 7)", x.post(4, 7), 1);
        check.due("28: post(4, 8)", x.post(4, 8), 0);
        x.set(3, 1);
        check.due("28: back(), nothing more", x.back(), Check.NO);
        check.due("28: what can be undone stays behind NO", x.count(5), 1);
        check.due("28: post(3, 6)", x.post(3, 6), E + 1);
    }

    private static void backLeavesMarksAndWatches() {
        HeavyChains x = new HeavyChains();
        x.keep();
        x.mark(0, 7, 1);
        x.watch(0, 0, 99);
        check.due("28: back()", x.back(), 0);
        check.due("28: count(2)", x.count(2), 4);
        check.due("28: count(3)", x.count(3), 1);
    }

    private static void keepLeavesUndo() {
        HeavyChains x = new HeavyChains();
        x.set(0, 9);
        x.keep();
        check.due("27: count(5)", x.count(5), 1);
        check.due("27: undo()", x.undo(), 0);
        check.due("27: count(6), keeping is not undone", x.count(6), 1);
        check.due("28: back()", x.back(), 0);
        check.due("28: post(0, 6)", x.post(0, 6), E + 9);
    }

    private static void count() {
        HeavyChains x = Check.laid("p0001336;w12345678;");
        x.mark(0, 7, 1);
        x.watch(0, 0, 1);
        x.watch(0, 0, 99);
        x.watch(0, 0, 98);
        x.settle();
        x.set(0, -100);
        x.set(0, -200);
        x.set(0, -300);
        x.set(0, -400);
        x.set(0, -500);
        x.keep();
        x.write('p');
        x.write('q');
        int[] due = {8, 4, 4, 2, 3, 5, 1, 2, E - 465};
        for (int what = 0; what < due.length; what++) {
            check.due("29: count(" + what + ")", x.count(what), due[what]);
        }
        check.due("29: count(-1)", x.count(-1), Check.BAD);
        check.due("29: count(9)", x.count(9), Check.BAD);
    }
}

import java.util.function.IntUnaryOperator;
import java.util.stream.IntStream;

/**
 * The promises 1 to 29, each number that a call takes: at its bounds, one step inside them and one step outside them.
 * What a refused call leaves behind is looked at in RefusedTest.
 */
public final class CallBoundsTest {
    private static final Check check = new Check();
    private static final int BAD = Check.BAD, NO = Check.NO, FULL = Check.FULL, NONE = Check.NONE, E = Check.EVEN;
    private static final String SIGNS = "0123456789abcdefghijklmnopqrs";
    private static final int FAR = Integer.MAX_VALUE, LOW = Integer.MIN_VALUE;

    public static void main(String[] args) {
        accounts();
        acts();
        ways();
        marksAndWatches();
        allWays();
        kept();
        onOnePost();
        onThirtyPosts();
        onFewerPostsThanAhead();
        check.end();
    }

    /** 0 over 1 and 2, 1 over 3, 2 over 4. The row: 0 1 3 2 4. Chains: 0 1 3, 2 4. */
    private static HeavyChains tree() {
        return Check.laid("p0012;w13579;f12345;g54321;");
    }

    /** The call's answers for numbers, told as pairs of a number and what is due. */
    private static void asked(String call, IntUnaryOperator answer, int... pairs) {
        for (int k = 0; k + 1 < pairs.length; k += 2) {
            check.due(call.replace("#", "" + pairs[k]), answer.applyAsInt(pairs[k]), pairs[k + 1]);
        }
        for (int far : new int[] {LOW, LOW + 1}) {
            check.due(call.replace("#", "" + far), answer.applyAsInt(far), BAD);
        }
    }

    // ---- accounts

    private static void accounts() {
        newObject();
        write();
        wipe();
        fault();
        lay();
        post();
        at();
    }

    private static void newObject() {
        HeavyChains x = new HeavyChains();
        asked("1: count(#)", x::count, -1, BAD, 0, 14, 1, 7, 2, 0, 3, 0, 4, 0, 5, 0, 6, 0, 7, 0, 8, E + 55, 9, BAD);
        check.due("1: fault()", x.fault(), NONE);
        check.due("1: undo()", x.undo(), NO);
        check.due("1: back()", x.back(), NO);
        check.due("1: the last post", x.post(13, 0), 6);
        check.due("1: none behind it", x.post(14, 0), BAD);
        check.due("1: the last place", x.at(13), 13);
        check.due("1: none behind that", x.at(14), BAD);
        check.due("1: none marked", x.marked(0), NONE);
        check.due("1: none waits", x.waits(0), NONE);
    }

    private static void write() {
        asked("2: write(#)", letter -> new HeavyChains().write(letter), -1, BAD, 0, BAD, 31, BAD, 32, 1, 33, 1, 125, 1,
                126, 1, 127, BAD, 128, BAD, 255, BAD, 256 + 32, BAD, 65536 + 32, BAD, FAR, BAD);
        HeavyChains x = new HeavyChains();
        Check.write(x, "w".repeat(198));
        check.due("2: letter 199", x.write('w'), 199);
        check.due("2: letter 200", x.write('w'), 200);
        check.due("2: letter 201", x.write('w'), FULL);
        check.due("2: letter 201 again", x.write('w'), FULL);
        check.due("2: of several the first", x.write(31), BAD);
        check.due("2: of several the first", x.write(127), BAD);
        x.wipe();
        check.due("2: room again", x.write('w'), 1);
    }

    private static void wipe() {
        for (int letters : new int[] {0, 1, 199, 200}) {
            HeavyChains x = new HeavyChains();
            Check.write(x, "p;".repeat(100).substring(0, letters));
            check.due("3: wipe() of " + letters, x.wipe(), letters);
            check.due("3: wiped", x.count(7), 0);
            check.due("3: wipe() again", x.wipe(), 0);
            check.due("3: nothing to lay", x.lay(), NO);
        }
        HeavyChains x = new HeavyChains();
        Check.write(x, "w".repeat(201));
        check.due("3: wipe() behind FULL", x.wipe(), 200);
    }

    private static void fault() {
        check.due("4: empty", Check.faultOf(""), NONE);
        check.due("4: at 0", Check.faultOf("w;"), 0);
        check.due("4: at 0, one letter", Check.faultOf("p"), 0);
        check.due("4: the least text", Check.faultOf("p;"), NONE);
        check.due("4: at the last letter", Check.faultOf("p;" + "f;".repeat(98) + "gg"), 198);
        check.due("4: at the 200th letter", Check.faultOf("p0;" + "f;".repeat(98) + "g"), 199);
        check.due("4: 200 letters", Check.faultOf("p;" + "f;".repeat(99)), NONE);
    }

    private static void lay() {
        HeavyChains x = new HeavyChains();
        check.due("5: nothing told", x.lay(), NO);
        Check.write(x, "p");
        check.due("5: a fault", x.lay(), NO);
        check.due("5: 14 still", x.count(0), 14);
        Check.write(x, ";");
        check.due("5: no fault more", x.lay(), 1);
        Check.write(x, "p;");
        check.due("5: a fault again", x.lay(), NO);
        check.due("5: 1 still", x.count(0), 1);
        x.wipe();
        Check.write(x, "p" + "0".repeat(29) + ";");
        check.due("5: the most", x.lay(), 30);
        x.wipe();
        Check.write(x, "p" + "0".repeat(30) + ";");
        check.due("5: one more", x.lay(), NO);
        check.due("5: 30 still", x.count(0), 30);
    }

    private static void post() {
        HeavyChains x = tree();
        asked("6: post(#, 0)", i -> x.post(i, 0), -1, BAD, 0, NONE, 1, 0, 3, 1, 4, 2, 5, BAD, FAR, BAD);
        asked("6: post(#, 1)", i -> x.post(i, 1), -1, BAD, 0, 1, 1, 3, 2, 4, 3, NONE, 4, NONE, 5, BAD, FAR, BAD);
        asked("6: post(#, 2)", i -> x.post(i, 2), -1, BAD, 0, 5, 1, 2, 3, 1, 4, 1, 5, BAD, FAR, BAD);
        asked("6: post(#, 3)", i -> x.post(i, 3), -1, BAD, 0, 0, 1, 1, 3, 2, 4, 4, 5, BAD, FAR, BAD);
        asked("6: post(#, 4)", i -> x.post(i, 4), -1, BAD, 0, 0, 1, 0, 3, 0, 4, 2, 5, BAD, FAR, BAD);
        asked("6: post(#, 5)", i -> x.post(i, 5), -1, BAD, 0, 0, 1, 1, 3, 2, 4, 2, 5, BAD, FAR, BAD);
        asked("6: post(#, 6)", i -> x.post(i, 6), -1, BAD, 0, E + 1, 1, E + 3, 3, E + 7, 4, E + 9, 5, BAD, FAR, BAD);
        asked("6: post(#, 7)", i -> x.post(i, 7), -1, BAD, 0, 1, 1, 2, 3, 4, 4, 5, 5, BAD, FAR, BAD);
        asked("6: post(#, 8)", i -> x.post(i, 8), -1, BAD, 0, 5, 1, 4, 3, 2, 4, 1, 5, BAD, FAR, BAD);
        asked("6: post(4, #)", what -> x.post(4, what), -1, BAD, 0, 2, 1, NONE, 7, 5, 8, 1, 9, BAD, FAR, BAD);
        asked("6: post(5, #)", what -> x.post(5, what), -1, BAD, 0, BAD, 8, BAD, 9, BAD);
    }

    private static void at() {
        HeavyChains x = tree();
        asked("7: at(#)", x::at, -1, BAD, 0, 0, 1, 1, 2, 3, 3, 2, 4, 4, 5, BAD, FAR, BAD);
        HeavyChains one = Check.laid("p;");
        asked("7: of one post, at(#)", one::at, -1, BAD, 0, 0, 1, BAD);
        HeavyChains most = Check.laid("p" + "0".repeat(29) + ";");
        asked("7: of 30 posts, at(#)", most::at, -1, BAD, 0, 0, 28, 28, 29, 29, 30, BAD, 31, BAD);
    }

    // ---- acts

    private static void acts() {
        add();
        pour();
        set();
        shape();
        undo();
    }

    private static void add() {
        asked("8: add(#, 4, 2, 0)", u -> tree().add(u, 4, 2, 0), -1, BAD, 0, E + 21, 1, E + 26, 3, E + 35, 4, E + 11,
                5, BAD, FAR, BAD);
        asked("8: add(3, #, 2, 0)", v -> tree().add(3, v, 2, 0), -1, BAD, 0, E + 17, 1, E + 14, 3, E + 9, 4, E + 35,
                5, BAD, FAR, BAD);
        asked("8: add(0, 0, #, 0)", n -> tree().add(0, 0, n, 0), -1000, BAD, -999, E - 998, -998, E - 997, 0, E + 1,
                998, E + 999, 999, E + 1000, 1000, BAD, FAR, BAD);
        asked("8: add(0, 0, -3, #)", kind -> tree().add(0, 0, -3, kind), -1, BAD, 0, E - 2, 1, E - 5, 2, E, 3, E,
                4, BAD, FAR, BAD);
        HeavyChains x = tree();
        x.set(2, 9999);
        check.due("8: it can't be", x.add(4, 1, 1, 0), NO);
        check.due("8: of several the first, u", x.add(5, 2, 1, 0), BAD);
        check.due("8: of several the first, v", x.add(2, -1, 1, 0), BAD);
        check.due("8: of several the first, x", x.add(2, 2, 1000, 0), BAD);
        check.due("8: of several the first, kind", x.add(2, 2, 1, 4), BAD);
    }

    private static void pour() {
        asked("9: pour(#, 2, 0)", u -> tree().pour(u, 2, 0), -1, BAD, 0, E + 35, 1, E + 14, 3, E + 9, 4, E + 11,
                5, BAD, FAR, BAD);
        asked("9: pour(4, #, 0)", n -> tree().pour(4, n, 0), -1000, BAD, -999, E - 990, -998, E - 989, 0, E + 9,
                998, E + 1007, 999, E + 1008, 1000, BAD, FAR, BAD);
        asked("9: pour(4, -11, #)", kind -> tree().pour(4, -11, kind), -1, BAD, 0, E - 2, 1, E - 13, 2, E, 3, E + 4,
                4, BAD, FAR, BAD);
        HeavyChains x = tree();
        x.set(4, -9999);
        check.due("9: it can't be", x.pour(2, -1, 0), NO);
        check.due("9: of several the first, x", x.pour(2, -1000, 0), BAD);
        check.due("9: of several the first, kind", x.pour(2, -1, -1), BAD);
    }

    private static void set() {
        asked("10: set(#, 0)", i -> tree().set(i, 0), -1, BAD, 0, E + 1, 1, E + 3, 3, E + 7, 4, E + 9, 5, BAD, FAR, BAD);
        asked("10: set(0, #)", n -> tree().set(0, n), -10000, BAD, -9999, E + 1, -9998, E + 1, 0, E + 1, 1, NO, 2, E + 1,
                9998, E + 1, 9999, E + 1, 10000, BAD, FAR, BAD);
        HeavyChains x = tree();
        x.set(4, -9999);
        check.due("10: it is so", x.set(4, -9999), NO);
        check.due("10: what it was", x.set(4, 9999), E - 9999);
        check.due("10: it is so", x.set(4, 9999), NO);
        check.due("10: what it was", x.set(4, 9998), E + 9999);
        check.due("10: of several the first", x.set(5, 10000), BAD);
    }

    private static void shape() {
        asked("11: shape(#, 9, 9)", i -> tree().shape(i, 9, 9), -1, BAD, 0, 15, 1, 24, 3, 42, 4, 51, 5, BAD, FAR, BAD);
        asked("11: shape(0, #, 5)", f -> tree().shape(0, f, 5), -1, BAD, 0, 15, 1, NO, 2, 15, 8, 15, 9, 15, 10, BAD,
                FAR, BAD);
        asked("11: shape(0, 1, #)", g -> tree().shape(0, 1, g), -1, BAD, 0, 15, 1, 15, 4, 15, 5, NO, 6, 15, 8, 15, 9, 15,
                10, BAD, FAR, BAD);
        HeavyChains x = tree();
        check.due("11: least", x.shape(0, 0, 0), 15);
        check.due("11: they are so", x.shape(0, 0, 0), NO);
        check.due("11: most", x.shape(0, 9, 9), 0);
        check.due("11: they are so", x.shape(0, 9, 9), NO);
        check.due("11: the factor is not so", x.shape(0, 8, 9), 99);
        check.due("11: the shift is not so", x.shape(0, 8, 8), 89);
    }

    private static void undo() {
        HeavyChains x = tree();
        check.due("12: nothing to be undone", x.undo(), NO);
        for (int k = 0; k < 9; k++) {
            x.add(0, 0, 1, 0);
        }
        for (int left = 7; left >= 0; left--) {
            check.due("12: undo()", x.undo(), left);
        }
        check.due("12: the ninth", x.undo(), NO);
        check.due("12: the ninth act stands", x.post(0, 6), E + 2);
        x.pour(0, 1, 0);
        x.shape(0, 9, 9);
        check.due("12: a shape", x.undo(), 1);
        check.due("12: a pour", x.undo(), 0);
        check.due("12: an undone one is not undone", x.undo(), NO);
        x.add(0, 0, 1000, 0);
        x.set(0, 2);
        x.shape(0, 1, 5);
        check.due("12: a refused act is not undone", x.undo(), NO);
    }

    // ---- ways

    private static void ways() {
        way();
        step();
        through();
        below();
    }

    private static void way() {
        HeavyChains x = tree();
        asked("13: way(#, 4, 0)", u -> x.way(u, 4, 0), -1, BAD, 0, 3, 1, 4, 3, 5, 4, 1, 5, BAD, FAR, BAD);
        asked("13: way(3, #, 0)", v -> x.way(3, v, 0), -1, BAD, 0, 3, 1, 2, 3, 1, 4, 5, 5, BAD, FAR, BAD);
        asked("13: way(3, 4, #)", what -> x.way(3, 4, what), -1, BAD, 0, 5, 1, 2, 2, 0, 3, E + 25, 4, E + 9, 5, E + 1,
                6, 8, 7, 0, 8, BAD, FAR, BAD);
        asked("13: way(4, 3, #)", what -> x.way(4, 3, what), -1, BAD, 0, 5, 1, 2, 2, 0, 3, E + 25, 4, E + 9, 5, E + 1,
                6, 6, 7, 0, 8, BAD, FAR, BAD);
        asked("13: way(5, 0, #)", what -> x.way(5, 0, what), -1, BAD, 0, BAD, 7, BAD, 8, BAD);
    }

    private static void step() {
        HeavyChains x = tree();
        asked("14: step(#, 4, 0)", u -> x.step(u, 4, 0), -1, BAD, 0, 0, 1, 1, 3, 3, 4, 4, 5, BAD, FAR, BAD);
        asked("14: step(3, #, 1)", v -> x.step(3, v, 1), -1, BAD, 0, 1, 1, 1, 3, NONE, 4, 1, 5, BAD, FAR, BAD);
        asked("14: step(3, 4, #)", k -> x.step(3, 4, k), -1, BAD, 0, 3, 1, 1, 2, 0, 3, 2, 4, 4, 5, NONE, 6, NONE,
                29, NONE, 30, NONE, FAR, NONE);
        HeavyChains row = Check.laid("p0123456789abcdefghijklmnopqrs;");
        asked("14: of 30 posts, step(0, 29, #)", k -> row.step(0, 29, k), -1, BAD, 0, 0, 28, 28, 29, 29, 30, NONE,
                31, NONE, FAR, NONE);
        check.due("14: of several the first", x.step(5, 0, 9), BAD);
        check.due("14: of several the first", x.step(0, 5, 9), BAD);
    }

    private static void through() {
        HeavyChains x = tree();
        asked("15: through(#, 0, 0)", u -> x.through(u, 0, 0), -1, BAD, 0, 5, 1, 9, 3, 13, 4, 11, 5, BAD, FAR, BAD);
        asked("15: through(0, #, 0)", v -> x.through(0, v, 0), -1, BAD, 0, 5, 1, 14, 3, 58, 4, 91, 5, BAD, FAR, BAD);
        asked("15: through(0, 0, #)", n -> x.through(0, 0, n), -1, BAD, 0, 5, 1, 6, 91, 96, 92, 0, 95, 3, 96, 4, 97, BAD,
                FAR, BAD);
    }

    private static void below() {
        HeavyChains x = tree();
        asked("16: below(#, 0)", u -> x.below(u, 0), -1, BAD, 0, E + 25, 1, E + 10, 3, E + 7, 4, E + 9, 5, BAD, FAR, BAD);
        asked("16: below(#, 1)", u -> x.below(u, 1), -1, BAD, 0, E + 9, 1, E + 7, 3, E + 7, 4, E + 9, 5, BAD, FAR, BAD);
        asked("16: below(#, 2)", u -> x.below(u, 2), -1, BAD, 0, 0, 1, 0, 3, 0, 4, 0, 5, BAD, FAR, BAD);
        asked("16: below(2, #)", what -> x.below(2, what), -1, BAD, 0, E + 14, 1, E + 9, 2, 0, 3, BAD, FAR, BAD);
        x.turn(2);
        asked("16: marked, below(#, 2)", u -> x.below(u, 2), 0, 2, 1, 0, 2, 2, 4, 1);
    }

    // ---- marks, watches

    private static void marksAndWatches() {
        mark();
        turn();
        marked();
        nearest();
        watch();
        settle();
        waits();
    }

    private static void mark() {
        asked("17: mark(#, 4, 1)", u -> tree().mark(u, 4, 1), -1, BAD, 0, 3, 1, 4, 3, 5, 4, 1, 5, BAD, FAR, BAD);
        asked("17: mark(3, #, 1)", v -> tree().mark(3, v, 1), -1, BAD, 0, 3, 1, 2, 3, 1, 4, 5, 5, BAD, FAR, BAD);
        HeavyChains x = tree();
        x.mark(0, 4, 1);
        asked("17: mark(3, 2, #)", how -> x.mark(3, 2, how), -1, BAD, 2, BAD, 1, 2, 0, 4, 3, BAD, FAR, BAD);
        check.due("17: one is marked still", x.count(2), 1);
    }

    private static void turn() {
        asked("18: turn(#)", u -> tree().turn(u), -1, BAD, 0, 5, 1, 2, 3, 1, 4, 1, 5, BAD, FAR, BAD);
        HeavyChains x = tree();
        asked("18: one behind the other, turn(#)", x::turn, 0, 5, 4, 4, 2, 4, -1, BAD, 5, BAD, 0, 1, 0, 4);
    }

    private static void marked() {
        HeavyChains x = tree();
        asked("19: none, marked(#)", x::marked, -1, BAD, 0, NONE, 1, NONE, 3, NONE, 4, NONE, 5, BAD, FAR, BAD);
        x.mark(4, 4, 1);
        asked("19: the last, marked(#)", x::marked, -1, BAD, 0, 4, 1, 4, 3, 4, 4, 4, 5, BAD, FAR, BAD);
        x.mark(4, 4, 0);
        x.mark(0, 0, 1);
        asked("19: the first, marked(#)", x::marked, -1, BAD, 0, 0, 1, NONE, 4, NONE, 5, BAD, FAR, BAD);
        HeavyChains most = Check.laid("p" + "0".repeat(29) + ";");
        most.mark(29, 29, 1);
        asked("19: of 30 posts, marked(#)", most::marked, -1, BAD, 0, 29, 28, 29, 29, 29, 30, BAD);
    }

    private static void nearest() {
        HeavyChains x = tree();
        asked("20: none, nearest(#)", x::nearest, -1, BAD, 0, NONE, 1, NONE, 4, NONE, 5, BAD, FAR, BAD);
        x.mark(3, 3, 1);
        asked("20: one, nearest(#)", x::nearest, -1, BAD, 0, 3, 1, 3, 3, 3, 4, 3, 5, BAD, FAR, BAD);
        x.mark(4, 4, 1);
        asked("20: two, nearest(#)", x::nearest, -1, BAD, 0, 3, 1, 3, 2, 4, 3, 3, 4, 4, 5, BAD, FAR, BAD);
    }

    private static void watch() {
        asked("21: watch(#, 4, 0)", u -> tree().watch(u, 4, 0), -1, BAD, 0, 0, 1, 0, 3, 0, 4, 0, 5, BAD, FAR, BAD);
        asked("21: watch(3, #, 0)", v -> tree().watch(3, v, 0), -1, BAD, 0, 0, 1, 0, 3, 0, 4, 0, 5, BAD, FAR, BAD);
        asked("21: watch(0, 0, #)", n -> tree().watch(0, 0, n), -10000, BAD, -9999, 0, -9998, 0, 9998, 0, 9999, 0,
                10000, BAD, FAR, BAD);
        HeavyChains x = tree();
        for (int k = 0; k < 12; k++) {
            check.due("21: watch " + k, x.watch(0, 0, 99), k);
        }
        check.due("21: 12 wait", x.watch(0, 0, 99), FULL);
        check.due("21: of several the first, u", x.watch(5, 0, 99), BAD);
        check.due("21: of several the first, v", x.watch(0, -1, 99), BAD);
        check.due("21: of several the first, much", x.watch(0, 0, 10000), BAD);
        check.due("21: 12 so far", x.count(4), 12);
    }

    private static void settle() {
        HeavyChains x = tree();
        check.due("22: none waits", x.settle(), 0);
        for (int k = 0; k < 12; k++) {
            x.watch(3, 4, 25);
        }
        check.due("22: all twelve go", x.settle(), 12);
        check.due("22: none waits more", x.settle(), 0);
        x.watch(3, 4, 24);
        x.watch(3, 4, 25);
        x.watch(3, 4, 26);
        check.due("22: one less, just so much; not one more", x.settle(), 2);
        check.due("22: which waits", x.waits(0), 14);
    }

    private static void waits() {
        HeavyChains x = tree();
        asked("23: none, waits(#)", x::waits, -2, BAD, -1, 0, 0, NONE, 1, NONE, FAR, NONE);
        x.watch(0, 0, 99);
        asked("23: one, waits(#)", x::waits, -2, BAD, -1, 1, 0, 0, 1, NONE, 2, NONE, FAR, NONE);
        for (int k = 1; k < 12; k++) {
            x.watch(0, 0, 99);
        }
        asked("23: twelve, waits(#)", x::waits, -3, BAD, -2, BAD, -1, 12, 0, 0, 10, 10, 11, 11, 12, NONE, 13, NONE,
                FAR, NONE);
    }

    // ---- all ways

    private static void allWays() {
        richest();
        longest();
        day();
        dayOfEachKind();
        dayNotIfOneWouldNotBe();
        dayOnARow();
    }

    private static void richest() {
        HeavyChains x = tree();
        asked("24: richest(#)", x::richest, -1, BAD, 0, 3, 1, 4, 2, E + 25, 3, BAD, FAR, BAD);
        HeavyChains one = Check.laid("p;");
        one.set(0, -9999);
        asked("24: of one post, richest(#)", one::richest, -1, BAD, 0, 0, 1, 0, 2, E - 9999, 3, BAD);
    }

    private static void longest() {
        HeavyChains x = tree();
        asked("25: longest(#)", x::longest, -1, BAD, 0, 3, 1, 4, 2, 5, 3, BAD, FAR, BAD);
        HeavyChains one = Check.laid("p;");
        asked("25: of one post, longest(#)", one::longest, -1, BAD, 0, 0, 1, 0, 2, 1, 3, BAD);
    }

    private static long draw(int z, int k) {
        long x = 7919L * z + 6151L * k + 1;
        return x * x % 65521;
    }

    private static int addedByDraw(int amount, long draw) {
        int number = (int) (draw / 64 % 41) - 20;
        int[] becomes = {amount + number, amount + 2 * number, Math.max(0, amount + number),
            Math.max(0, amount + number / 2)};
        int then = becomes[(int) (draw % 4)];
        return then < -9999 || then > 9999 ? amount : then;
    }

    private static int dayOfOnePost(int z, int n, int first) {
        int amount = first;
        for (int k = 0; k < n; k++) {
            amount = addedByDraw(amount, draw(z, k));
        }
        return E + amount;
    }

    private static void day() {
        HeavyChains one = Check.laid("p;w9;");
        for (int z : new int[] {0, 1, 9998, 9999}) {
            for (int n : new int[] {1, 2, 19, 20}) {
                check.due("26: day(" + z + ", " + n + ", 0)", one.day(z, n, 0), dayOfOnePost(z, n, 9));
                check.due("26: day(" + z + ", " + n + ", 1)", one.day(z, n, 1), dayOfOnePost(z, n, 9));
            }
        }
        HeavyChains x = tree();
        asked("26: day(#, 1, 0)", z -> x.day(z, 1, 0), -1, BAD, 10000, BAD, FAR, BAD);
        asked("26: day(0, #, 0)", n -> x.day(0, n, 0), -1, BAD, 0, BAD, 21, BAD, FAR, BAD);
        // draw 1: less 20, by kind 1, from 0 to 0
        asked("26: day(0, 1, #)", what -> x.day(0, 1, what), -1, BAD, 0, E - 15, 1, E + 9, 2, BAD, FAR, BAD);
    }

    /** "if it can be": a draw of each kind that adds most, or takes most away, just at the bound and one beyond it. */
    private static void dayOfEachKind() {
        int[] most = {20, 40, 20, 10};
        for (int kind = 0; kind < 4; kind++) {
            int up = drawn(kind, 20);
            HeavyChains x = Check.laid("p;");
            x.set(0, 9999 - most[kind]);
            check.due("26: up to 9999 by " + kind, x.day(up, 1, 0), E + 9999);
            x.set(0, 9999 - most[kind] - 1);
            check.due("26: up to 9998 by " + kind, x.day(up, 1, 0), E + 9998);
            x.set(0, 9999 - most[kind] + 1);
            check.due("26: not over 9999 by " + kind, x.day(up, 1, 0), x.post(0, 6));
            int down = drawn(kind, -20);
            x.set(0, -9999 + most[kind]);
            check.due("26: down to -9999 by " + kind, x.day(down, 1, 0), kind < 2 ? E - 9999 : E);
            x.set(0, -9999 + most[kind] - 1);
            check.due("26: not under -9999 by " + kind, x.day(down, 1, 0), kind < 2 ? x.post(0, 6) : E);
        }
    }

    /** Of a way of two posts one is at the bound: the other one stays as it is too. */
    private static void dayNotIfOneWouldNotBe() {
        int z = 0;
        while (draw(z, 0) % 4 != 0 || draw(z, 0) / 64 % 41 <= 20 || draw(z, 0) / 4 % 2 == draw(z, 0) / 256 % 2) {
            z++;
        }
        int number = (int) (draw(z, 0) / 64 % 41) - 20;
        for (int which = 0; which < 2; which++) {
            HeavyChains x = Check.laid("p0;");
            x.set(which, 9999 - number);
            check.due("26: both, just so", x.day(z, 1, 0), E + 9999 + number);
            x.set(which, 9999 - number + 1);
            check.due("26: none of both", x.day(z, 1, 0), E + 9999 - number + 1);
        }
    }

    /** "from (DRAW by 4, cut) modulo n to (DRAW by 256, cut) modulo n (of POSTS)", on rows of which a way is a stretch */
    private static void dayOnARow() {
        for (int posts : new int[] {1, 2, 3, 13, 29, 30}) {
            HeavyChains x = Check.laid("p" + SIGNS.substring(0, posts - 1) + ";");
            for (int z = 0; z <= 9999; z += 303) {
                int[] amounts = new int[posts];
                for (int k = 0; k < 20; k++) {
                    addByDraw(amounts, draw(z, k));
                    if (k == 0 || k == 18 || k == 19) {
                        check.due("26: " + posts + " posts, day(" + z + ", " + (k + 1) + ", 0)", x.day(z, k + 1, 0),
                                E + IntStream.of(amounts).sum());
                        check.due("26: " + posts + " posts, day(" + z + ", " + (k + 1) + ", 1)", x.day(z, k + 1, 1),
                                E + IntStream.of(amounts).max().getAsInt());
                    }
                }
            }
        }
    }

    private static void addByDraw(int[] amounts, long draw) {
        int u = (int) (draw / 4 % amounts.length);
        int v = (int) (draw / 256 % amounts.length);
        for (int i = Math.min(u, v); i <= Math.max(u, v); i++) {
            amounts[i] = addedByDraw(amounts[i], draw);
        }
    }

    /** A day's number whose first draw adds a number by a kind. */
    private static int drawn(int kind, int number) {
        for (int z = 0; z <= 9999; z++) {
            long draw = draw(z, 0);
            if (draw % 4 == kind && draw / 64 % 41 - 20 == number) {
                return z;
            }
        }
        throw new IllegalStateException("no draw of " + number + " by " + kind);
    }

    // ---- kept

    private static void kept() {
        keepAndBack();
        count();
    }

    private static void keepAndBack() {
        HeavyChains x = tree();
        check.due("28: nothing kept", x.back(), NO);
        check.due("27: one", x.keep(), 1);
        check.due("27: two", x.keep(), 2);
        check.due("27: three", x.keep(), FULL);
        check.due("27: three again", x.keep(), FULL);
        check.due("28: one left", x.back(), 1);
        check.due("27: two again", x.keep(), 2);
        check.due("28: one left again", x.back(), 1);
        check.due("28: none left", x.back(), 0);
        check.due("28: nothing kept more", x.back(), NO);
        x.set(0, 7);
        check.due("28: NO undoes nothing, and can be undone still", x.back(), NO);
        check.due("12: undo()", x.undo(), 0);
        x.keep();
        x.set(0, 7);
        check.due("28: back()", x.back(), 0);
        check.due("28: nothing is undone then", x.undo(), NO);
        check.due("28: as kept", x.post(0, 6), E + 1);
    }

    private static void count() {
        HeavyChains x = tree();
        Check.write(x, "p;w");
        x.turn(1);
        x.watch(0, 0, 0);
        x.watch(0, 0, 99);
        x.settle();
        x.set(0, -100);
        x.set(1, -100);
        x.set(2, -100);
        x.keep();
        asked("29: count(#)", x::count, -1, BAD, 0, 5, 1, 2, 2, 2, 3, 1, 4, 2, 5, 3, 6, 1, 7, 3, 8, E - 284, 9, BAD,
                FAR, BAD);
    }

    // ---- fewest and most posts

    private static void onOnePost() {
        HeavyChains x = Check.laid("p;w7;f3;g4;");
        asked("6: of one post, post(0, #)", what -> x.post(0, what), 0, NONE, 1, NONE, 2, 1, 3, 0, 4, 0, 5, 0, 6, E + 7,
                7, 3, 8, 4);
        asked("13: of one post, way(0, 0, #)", what -> x.way(0, 0, what), 0, 1, 1, 1, 2, 0, 3, E + 7, 4, E + 7, 5, E + 7,
                6, 0, 7, 0);
        asked("13: of one post, way(0, #, 0)", v -> x.way(0, v, 0), -1, BAD, 0, 1, 1, BAD);
        asked("14: of one post, step(0, 0, #)", k -> x.step(0, 0, k), -1, BAD, 0, 0, 1, NONE);
        check.due("15: of one post", x.through(0, 0, 96), 292 % 97);
        asked("16: of one post, below(0, #)", what -> x.below(0, what), 0, E + 7, 1, E + 7, 2, 0);
        check.due("20: of one post, none", x.nearest(0), NONE);
        check.due("17: of one post", x.mark(0, 0, 1), 1);
        check.due("19: of one post", x.marked(0), 0);
        check.due("20: of one post", x.nearest(0), 0);
        check.due("18: of one post", x.turn(0), 0);
        check.due("8: of one post", x.add(0, 0, 1, 0), E + 8);
        check.due("9: of one post", x.pour(0, 1, 0), E + 9);
        check.due("12: of one post", x.undo(), 1);
        check.due("21: of one post", x.watch(0, 0, 9), 0);
        check.due("22: of one post", x.settle(), 0);
    }

    private static void onThirtyPosts() {
        HeavyChains row = Check.laid("p" + SIGNS + ";w" + "1".repeat(30) + ";g" + "1".repeat(30) + ";");
        asked("6: of a row, post(29, #)", what -> row.post(29, what), 0, 28, 1, NONE, 2, 1, 3, 29, 4, 0, 5, 29, 6, E + 1,
                7, 1, 8, 1);
        asked("13: of a row, way(29, 0, #)", what -> row.way(29, 0, what), 0, 30, 1, 1, 2, 0, 3, E + 30, 4, E + 1,
                5, E + 1, 6, 0, 7, 0);
        check.due("15: of a row", row.through(0, 29, 67), 0);
        check.due("15: of a row", row.through(0, 29, 66), 96);
        check.due("16: of a row", row.below(0, 1), E + 1);
        check.due("17: of a row", row.mark(0, 29, 1), 30);
        check.due("17: of a row", row.mark(28, 0, 0), 29);
        check.due("20: of a row", row.nearest(0), 29);
        check.due("18: of a row", row.turn(28), 1);
        check.due("8: of a row", row.add(0, 29, 999, 1), E + 30 * 1999);
        check.due("9: of a row", row.pour(0, -999, 1), E + 30);
        check.due("12: of a row", row.undo(), 1);
        check.due("22: of a row", row.watch(0, 29, 9999) + row.settle(), 1);
        HeavyChains star = Check.laid("p" + "0".repeat(29) + ";");
        star.mark(29, 29, 1);
        check.due("20: of a star", star.nearest(28), 29);
        check.due("13: of a star, pieces", star.way(28, 29, 1), 3);
        check.due("13: of a star, pieces with the heavy one", star.way(29, 1, 1), 2);
        check.due("18: of a star", star.turn(0), 29);
        check.due("16: of a star", star.below(0, 2), 29);
        check.due("9: of a star", star.pour(29, -1, 0), E - 1);
        check.due("16: of a star, greatest", star.below(29, 1), E - 1);
    }

    /** What posts had that are no more does not show. */
    private static void onFewerPostsThanAhead() {
        HeavyChains x = Check.laid("p" + "0".repeat(29) + ";w" + "9".repeat(30) + ";");
        x.turn(0);
        x.pour(0, 1, 0);
        Check.write(x, "p0;");
        x.lay();
        check.due("29: sum", x.count(8), E);
        check.due("16: greatest", x.below(0, 1), E);
        check.due("13: greatest", x.way(1, 0, 4), E);
        check.due("20: none marked", x.nearest(1), NONE);
        check.due("24: richest", x.richest(2), E);
        check.due("25: longest", x.longest(2), 2);
        check.due("6: size", x.post(0, 2), 2);
        check.due("6: heavy", x.post(1, 1), NONE);
        check.due("29: chains", x.count(1), 1);
        check.due("7: one behind", x.at(2), BAD);
        x.set(0, -5);
        x.set(1, -6);
        check.due("16: greatest, below 0", x.below(0, 1), E - 5);
        check.due("16: greatest of one, below 0", x.below(1, 1), E - 6);
        check.due("13: least of one", x.way(0, 0, 5), E - 5);
    }
}

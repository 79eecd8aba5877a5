import java.util.List;
import java.util.function.Supplier;
import java.util.function.ToIntFunction;

/**
 * "Of several the first; nothing changes then.": each refused call, and each call that only asks, on one of two objects
 * that have had the same calls; the two must tell the same behind it.
 */
public final class RefusedTest {
    private static final Check check = new Check();
    private static final int BAD = Check.BAD, NO = Check.NO, FULL = Check.FULL, NONE = Check.NONE, E = Check.EVEN;
    private static final int[] OUTSIDE = {-1, 5, 30, Integer.MIN_VALUE, Integer.MAX_VALUE};

    public static void main(String[] args) {
        twinsThatDiffer();
        badInAllStates();
        noAsThingsStand();
        full();
        none();
        onlyAsked();
        check.end();
    }

    // ---- states

    /** Laid, its text still there, and nothing done. */
    private static HeavyChains fresh() {
        HeavyChains x = new HeavyChains();
        Check.write(x, "p0012;w13579;f12345;g54321;");
        x.lay();
        return x;
    }

    /** Eight acts, two kept, some marked, twelve watches, a text with a fault. */
    private static HeavyChains busy() {
        HeavyChains x = fresh();
        x.set(3, -20);
        x.shape(1, 7, 8);
        x.keep();
        x.pour(2, 11, 1);
        x.shape(4, 0, 9);
        x.keep();
        x.add(3, 4, -6, 0);
        x.add(2, 0, -9, 3);
        x.set(0, 9999);
        x.set(4, -9999);
        x.set(1, 60);
        x.mark(3, 0, 1);
        x.turn(1);
        x.mark(4, 4, 1);
        for (int k = 0; k < 12; k++) {
            x.watch(k % 5, (k + k / 5) % 5, 90 * k - 500);
        }
        Check.write(x, "w12");
        return x;
    }

    /** A text of 200 letters without a fault. */
    private static HeavyChains fullText() {
        HeavyChains x = new HeavyChains();
        Check.write(x, "p0012;w13579;" + "f12345;".repeat(26) + "g543;");
        x.lay();
        x.set(2, 40);
        x.mark(2, 2, 1);
        x.watch(2, 2, 41);
        x.keep();
        return x;
    }

    /** The text is empty; what has been laid stands. */
    private static HeavyChains wiped() {
        HeavyChains x = fresh();
        x.wipe();
        x.set(2, 40);
        x.mark(2, 2, 1);
        x.watch(2, 2, 41);
        x.keep();
        return x;
    }

    // ---- twins

    private static void same(String call, HeavyChains one, HeavyChains other) {
        List<Integer> had = Told.allOf(one);
        List<Integer> has = Told.allOf(other);
        int differs = -1;
        for (int k = 0; k < Math.max(had.size(), has.size()) && differs < 0; k++) {
            if (k >= had.size() || k >= has.size() || !had.get(k).equals(has.get(k))) {
                differs = k;
            }
        }
        check.due(call + ": the first answer behind it that differs", differs, -1);
    }

    private static void unchanged(String call, Supplier<HeavyChains> state, int due, ToIntFunction<HeavyChains> asked) {
        HeavyChains one = state.get();
        HeavyChains other = state.get();
        check.due(call, asked.applyAsInt(other), due);
        check.due(call + " again", asked.applyAsInt(other), due);
        same(call, one, other);
    }

    private static void bad(String call, ToIntFunction<HeavyChains> asked) {
        unchanged("fresh: " + call, RefusedTest::fresh, BAD, asked);
        unchanged("busy: " + call, RefusedTest::busy, BAD, asked);
        unchanged("full text: " + call, RefusedTest::fullText, BAD, asked);
    }

    /** What is told of two objects does show a change; else the tests below would show nothing. */
    private static void twinsThatDiffer() {
        differ("set", x -> x.set(2, 8));
        differ("shape", x -> x.shape(2, 8, 8));
        differ("add of 0, an act", x -> x.add(2, 2, 0, 0));
        differ("undo", HeavyChains::undo);
        differ("back", HeavyChains::back);
        differ("mark", x -> x.mark(2, 2, 1));
        differ("turn", x -> x.turn(3));
        differ("settle", HeavyChains::settle);
        differ("write", x -> x.write(' '));
        differ("wipe", HeavyChains::wipe);
        differ("set and undo, one act less", x -> x.set(2, 8) + x.undo());
    }

    private static void differ(String call, ToIntFunction<HeavyChains> asked) {
        HeavyChains other = busy();
        asked.applyAsInt(other);
        check.due(call + " can be seen", Told.allOf(busy()).equals(Told.allOf(other)) ? 0 : 1, 1);
    }

    // ---- BAD

    /** "BAD: a number is none that is told (POSTS: such as there are)." */
    private static void badInAllStates() {
        badLetters();
        badPosts();
        badPostsOfWays();
        badNumbers();
        badWhats();
        badAheadOfOthers();
    }

    private static void badLetters() {
        for (int letter : new int[] {-1, 0, 31, 127, 128, 65536 + 'p', Integer.MIN_VALUE, Integer.MAX_VALUE}) {
            bad("write(" + letter + ")", x -> x.write(letter));
        }
    }

    private static void badPosts() {
        for (int i : OUTSIDE) {
            bad("post(" + i + ", 0)", x -> x.post(i, 0));
            bad("at(" + i + ")", x -> x.at(i));
            bad("pour(" + i + ", 1, 0)", x -> x.pour(i, 1, 0));
            bad("set(" + i + ", 1)", x -> x.set(i, 1));
            bad("shape(" + i + ", 1, 1)", x -> x.shape(i, 1, 1));
            bad("below(" + i + ", 0)", x -> x.below(i, 0));
            bad("turn(" + i + ")", x -> x.turn(i));
            bad("marked(" + i + ")", x -> x.marked(i));
            bad("nearest(" + i + ")", x -> x.nearest(i));
        }
    }

    private static void badPostsOfWays() {
        for (int i : OUTSIDE) {
            bad("add(" + i + ", 0, 1, 0)", x -> x.add(i, 0, 1, 0));
            bad("add(0, " + i + ", 1, 0)", x -> x.add(0, i, 1, 0));
            bad("way(" + i + ", 0, 0)", x -> x.way(i, 0, 0));
            bad("way(0, " + i + ", 0)", x -> x.way(0, i, 0));
            bad("step(" + i + ", 0, 0)", x -> x.step(i, 0, 0));
            bad("step(0, " + i + ", 0)", x -> x.step(0, i, 0));
            bad("through(" + i + ", 0, 0)", x -> x.through(i, 0, 0));
            bad("through(0, " + i + ", 0)", x -> x.through(0, i, 0));
            bad("mark(" + i + ", 0, 1)", x -> x.mark(i, 0, 1));
            bad("mark(0, " + i + ", 0)", x -> x.mark(0, i, 0));
            bad("watch(" + i + ", 0, 0)", x -> x.watch(i, 0, 0));
            bad("watch(0, " + i + ", 0)", x -> x.watch(0, i, 0));
        }
    }

    private static void badNumbers() {
        for (int n : new int[] {-1000, 1000, Integer.MIN_VALUE, Integer.MAX_VALUE}) {
            bad("add(2, 3, " + n + ", 0)", x -> x.add(2, 3, n, 0));
            bad("pour(2, " + n + ", 2)", x -> x.pour(2, n, 2));
        }
        for (int kind : new int[] {-1, 4, Integer.MIN_VALUE, Integer.MAX_VALUE}) {
            bad("add(2, 3, 1, " + kind + ")", x -> x.add(2, 3, 1, kind));
            bad("pour(2, 1, " + kind + ")", x -> x.pour(2, 1, kind));
        }
        for (int n : new int[] {-10000, 10000, Integer.MIN_VALUE, Integer.MAX_VALUE}) {
            bad("set(2, " + n + ")", x -> x.set(2, n));
            bad("watch(2, 3, " + n + ")", x -> x.watch(2, 3, n));
        }
        for (int figure : new int[] {-1, 10, Integer.MIN_VALUE, Integer.MAX_VALUE}) {
            bad("shape(2, " + figure + ", 1)", x -> x.shape(2, figure, 1));
            bad("shape(2, 1, " + figure + ")", x -> x.shape(2, 1, figure));
        }
        for (int n : new int[] {-1, 97, Integer.MIN_VALUE, Integer.MAX_VALUE}) {
            bad("through(2, 3, " + n + ")", x -> x.through(2, 3, n));
        }
        for (int k : new int[] {-1, -2, Integer.MIN_VALUE}) {
            bad("step(2, 3, " + k + ")", x -> x.step(2, 3, k));
            bad("waits(" + (k == -1 ? -3 : k) + ")", x -> x.waits(k == -1 ? -3 : k));
        }
    }

    private static void badWhats() {
        for (int what : new int[] {-1, 9, Integer.MIN_VALUE, Integer.MAX_VALUE}) {
            int first = what == 9 ? 8 : what;
            bad("post(2, " + what + ")", x -> x.post(2, what));
            bad("count(" + what + ")", x -> x.count(what));
            bad("way(2, 3, " + first + ")", x -> x.way(2, 3, first));
            int third = what == 9 ? 3 : what;
            bad("below(2, " + third + ")", x -> x.below(2, third));
            bad("richest(" + third + ")", x -> x.richest(third));
            bad("longest(" + third + ")", x -> x.longest(third));
            int second = what == 9 ? 2 : what;
            bad("mark(2, 3, " + second + ")", x -> x.mark(2, 3, second));
            bad("day(1, 1, " + second + ")", x -> x.day(1, 1, second));
            int z = what == 9 ? 10000 : what;
            bad("day(" + z + ", 1, 0)", x -> x.day(z, 1, 0));
            int n = what == 9 ? 21 : what;
            bad("day(1, " + n + ", 0)", x -> x.day(1, n, 0));
        }
        bad("day(1, 0, 0)", x -> x.day(1, 0, 0));
    }

    /** "Of several the first": a number that is none, where the call would be refused or find none anyhow. */
    private static void badAheadOfOthers() {
        unchanged("BAD ahead of FULL, write", RefusedTest::fullText, BAD, x -> x.write(127));
        unchanged("BAD ahead of FULL, watch", RefusedTest::busy, BAD, x -> x.watch(0, 0, 10000));
        unchanged("BAD ahead of FULL, watch u", RefusedTest::busy, BAD, x -> x.watch(5, 0, 0));
        unchanged("BAD ahead of NO, add", RefusedTest::busy, BAD, x -> x.add(0, 0, 999, 4));
        unchanged("BAD ahead of NO, add x", RefusedTest::busy, BAD, x -> x.add(0, 0, 1000, 0));
        unchanged("BAD ahead of NO, pour", RefusedTest::busy, BAD, x -> x.pour(0, 1000, 0));
        unchanged("BAD ahead of NO, shape", RefusedTest::fresh, BAD, x -> x.shape(0, 1, 15));
        unchanged("BAD ahead of NONE, post", RefusedTest::fresh, BAD, x -> x.post(5, 0));
        unchanged("BAD ahead of NONE, step", RefusedTest::fresh, BAD, x -> x.step(0, 5, 99));
        unchanged("BAD ahead of NONE, marked", RefusedTest::fresh, BAD, x -> x.marked(5));
        unchanged("BAD ahead of NONE, nearest", RefusedTest::fresh, BAD, x -> x.nearest(5));
        unchanged("two that are BAD", RefusedTest::fresh, BAD, x -> x.add(-1, 5, 1000, 4));
    }

    // ---- NO, FULL, NONE

    /** "NO: not as things stand." */
    private static void noAsThingsStand() {
        unchanged("lay() of an empty text", RefusedTest::wiped, NO, HeavyChains::lay);
        unchanged("lay() of a fault", RefusedTest::busy, NO, HeavyChains::lay);
        unchanged("add() over 9999 at its end", RefusedTest::busy, NO, x -> x.add(3, 0, 1, 0));
        unchanged("add() over 9999 at its start", RefusedTest::busy, NO, x -> x.add(0, 3, 1, 1));
        unchanged("add() over 9999 amid, dry", RefusedTest::busy, NO, x -> x.add(3, 2, 1, 2));
        unchanged("add() over 9999 amid, lean", RefusedTest::busy, NO, x -> x.add(2, 3, 2, 3));
        unchanged("add() under -9999", RefusedTest::busy, NO, x -> x.add(2, 4, -1, 0));
        unchanged("add() under -9999, twice", RefusedTest::busy, NO, x -> x.add(4, 2, -1, 1));
        unchanged("pour() over 9999", RefusedTest::busy, NO, x -> x.pour(0, 1, 0));
        unchanged("pour() under -9999", RefusedTest::busy, NO, x -> x.pour(2, -1, 0));
        unchanged("set(), it is so", RefusedTest::busy, NO, x -> x.set(1, 60));
        unchanged("set(), it is 9999", RefusedTest::busy, NO, x -> x.set(0, 9999));
        unchanged("set(), it is -9999", RefusedTest::busy, NO, x -> x.set(4, -9999));
        unchanged("shape(), they are so", RefusedTest::busy, NO, x -> x.shape(1, 7, 8));
        unchanged("undo(), nothing done", RefusedTest::fresh, NO, HeavyChains::undo);
        unchanged("back(), nothing kept", RefusedTest::fresh, NO, HeavyChains::back);
    }

    /** "FULL." */
    private static void full() {
        unchanged("write() of letter 201", RefusedTest::fullText, FULL, x -> x.write('w'));
        unchanged("watch(), 12 wait", RefusedTest::busy, FULL, x -> x.watch(0, 0, 0));
        unchanged("keep(), two kept", RefusedTest::busy, FULL, HeavyChains::keep);
    }

    /** "NONE: there is none." */
    private static void none() {
        unchanged("fault()", RefusedTest::fresh, NONE, HeavyChains::fault);
        unchanged("fault() of an empty text", RefusedTest::wiped, NONE, HeavyChains::fault);
        unchanged("post(0, 0)", RefusedTest::busy, NONE, x -> x.post(0, 0));
        unchanged("post(4, 1)", RefusedTest::busy, NONE, x -> x.post(4, 1));
        unchanged("step(3, 4, 5)", RefusedTest::busy, NONE, x -> x.step(3, 4, 5));
        unchanged("marked(0)", RefusedTest::fresh, NONE, x -> x.marked(0));
        unchanged("nearest(0)", RefusedTest::fresh, NONE, x -> x.nearest(0));
        unchanged("waits(0)", RefusedTest::fresh, NONE, x -> x.waits(0));
        unchanged("waits(12)", RefusedTest::busy, NONE, x -> x.waits(12));
    }

    // ---- asked

    /** A call that only asks changes nothing either. */
    private static void onlyAsked() {
        unchanged("fault()", RefusedTest::busy, 27, HeavyChains::fault);
        unchanged("post(0, 6)", RefusedTest::busy, E + 9999, x -> x.post(0, 6));
        unchanged("at(4)", RefusedTest::busy, 4, x -> x.at(4));
        for (int what = 0; what <= 7; what++) {
            int which = what;
            unchanged("way(3, 4, " + what + ")", RefusedTest::busy, busy().way(3, 4, what), x -> x.way(3, 4, which));
        }
        unchanged("step(3, 4, 4)", RefusedTest::busy, 4, x -> x.step(3, 4, 4));
        unchanged("through(3, 4, 96)", RefusedTest::busy, 9, x -> x.through(3, 4, 96));
        for (int what = 0; what <= 2; what++) {
            int which = what;
            unchanged("below(2, " + what + ")", RefusedTest::busy, busy().below(2, what), x -> x.below(2, which));
            unchanged("richest(" + what + ")", RefusedTest::busy, busy().richest(what), x -> x.richest(which));
            unchanged("longest(" + what + ")", RefusedTest::busy, busy().longest(what), x -> x.longest(which));
        }
        unchanged("marked(4)", RefusedTest::busy, 4, x -> x.marked(4));
        unchanged("nearest(2)", RefusedTest::busy, 0, x -> x.nearest(2));
        unchanged("waits(-1)", RefusedTest::busy, 12, x -> x.waits(-1));
        unchanged("waits(11)", RefusedTest::busy, 11, x -> x.waits(11));
        unchanged("day(77, 20, 0)", RefusedTest::busy, busy().day(77, 20, 0), x -> x.day(77, 20, 0));
        unchanged("day(77, 20, 1)", RefusedTest::busy, busy().day(77, 20, 1), x -> x.day(77, 20, 1));
        for (int what = 0; what <= 8; what++) {
            int which = what;
            unchanged("count(" + what + ")", RefusedTest::busy, busy().count(what), x -> x.count(which));
        }
    }
}

/** Promises 24 to 26: richest, longest, day. */
public final class AllWaysTest {
    private static final Check check = new Check();
    private static final int E = Check.EVEN;

    public static void main(String[] args) {
        richest();
        richestOfSeveral();
        richestBelowNought();
        longest();
        dayOfOnePost();
        dayOnTwoPosts();
        dayIfItCanBe();
        dayChangesNothing();
        dayWrong();
        check.end();
    }

    private static void three(String call, int[] got, int u, int v, int worth) {
        check.due(call + "(0)", got[0], u);
        check.due(call + "(1)", got[1], v);
        check.due(call + "(2)", got[2], worth);
    }

    private static int[] richestOf(HeavyChains x) {
        return new int[] {x.richest(0), x.richest(1), x.richest(2)};
    }

    private static int[] longestOf(HeavyChains x) {
        return new int[] {x.longest(0), x.longest(1), x.longest(2)};
    }

    /** 0 over 1, 2, 3; 1 over 4; 3 over 5, 6; 6 over 7. */
    private static void richest() {
        HeavyChains x = Check.laid("p0001336;w12345678;");
        three("24: richest", richestOf(x), 4, 7, E + 27);
        x.set(0, -30);
        three("24: richest, not over 0", richestOf(x), 5, 7, E + 25);
        x.set(2, 500);
        three("24: richest, one post", richestOf(x), 2, 2, E + 500);
        check.due("24: richest(-1)", x.richest(-1), Check.BAD);
        check.due("24: richest(3)", x.richest(3), Check.BAD);
    }

    private static void richestOfSeveral() {
        HeavyChains x = Check.laid("p000;");
        three("24: all alike", richestOf(x), 0, 0, E);
        x.set(2, 5);
        three("24: the lowest u", richestOf(x), 0, 2, E + 5);
        x.set(0, -1);
        three("24: the lowest v", richestOf(x), 2, 2, E + 5);
        x.set(1, 5);
        x.set(3, 5);
        x.set(0, 0);
        three("24: the lowest u, then v", richestOf(x), 1, 2, E + 10);
    }

    private static void richestBelowNought() {
        HeavyChains x = Check.laid("p00;");
        x.pour(0, -500, 1);
        x.add(2, 2, 1, 0);
        three("24: all below 0", richestOf(x), 2, 2, E - 999);
        three("24: the longest is as it was", longestOf(x), 1, 2, 3);
    }

    private static void longest() {
        three("25: one post", longestOf(Check.laid("p;")), 0, 0, 1);
        three("25: two posts", longestOf(Check.laid("p0;")), 0, 1, 2);
        three("25: a star", longestOf(Check.laid("p00000;")), 1, 2, 3);
        three("25: a chain of 30", longestOf(Check.laid("p0123456789abcdefghijklmnopqrs;")), 0, 29, 30);
        three("25: not over 0", longestOf(Check.laid("p011223344;")), 6, 8, 6);
        HeavyChains x = Check.laid("p0001336;");
        three("25: a tree", longestOf(x), 4, 7, 6);
        check.due("25: longest(-1)", x.longest(-1), Check.BAD);
        check.due("25: longest(3)", x.longest(3), Check.BAD);
    }

    /** z = 0, k = 0: x 1, draw 1: -20 by kind 1. k = 1: x 6152, draw 41487: 648 % 41 - 20 = 13 by kind 3. */
    private static void dayOfOnePost() {
        HeavyChains x = Check.laid("p;w9;");
        check.due("26: day(0, 1, 0): 9 - 40", x.day(0, 1, 0), E - 31);
        check.due("26: day(0, 1, 1)", x.day(0, 1, 1), E - 31);
        check.due("26: day(0, 2, 0): -31 + 6, 0 at least", x.day(0, 2, 0), E);
    }

    /**
     * z = 1, k = 0: x 7920, draw 22803: 356 % 41 - 20 = 8 by kind 3 from 5700 % 2 = 0 to 89 % 2 = 1.
     * k = 1: x 14071, draw 54100: 845 % 41 - 20 = 5 by kind 0 from 13525 % 2 = 1 to 211 % 2 = 1.
     */
    private static void dayOnTwoPosts() {
        HeavyChains x = Check.laid("p0;w12;");
        check.due("26: day(1, 1, 0)", x.day(1, 1, 0), E + 3 + 8);
        check.due("26: day(1, 1, 1)", x.day(1, 1, 1), E + 6);
        check.due("26: day(1, 2, 0)", x.day(1, 2, 0), E + 11 + 5);
        check.due("26: day(1, 2, 1)", x.day(1, 2, 1), E + 11);
        // of three posts the way goes from 5700 % 3 = 0 to 89 % 3 = 2
        x = Check.laid("p00;w127;");
        check.due("26: day(1, 1, 0) of three", x.day(1, 1, 0), E + 10 + 8);
        check.due("26: day(1, 1, 1) of three", x.day(1, 1, 1), E + 11);
    }

    /** The square of 7919 * 9999 + 1 goes beyond an int. */
    private static void dayIfItCanBe() {
        HeavyChains x = Check.laid("p;w9;");
        check.due("26: day(9999, 1, 0)", x.day(9999, 1, 0), E + due9999());
        x.set(0, -9999);
        check.due("26: not, if it can't be", x.day(0, 1, 0), E - 9999);
        x.set(0, -9960);
        check.due("26: 39 more is the room", x.day(0, 1, 0), E - 9960);
        x.set(0, -9959);
        check.due("26: 40 more is the room", x.day(0, 1, 0), E - 9999);
    }

    private static int due9999() {
        java.math.BigInteger x = java.math.BigInteger.valueOf(7919).multiply(java.math.BigInteger.valueOf(9999))
                .add(java.math.BigInteger.ONE);
        int draw = x.multiply(x).mod(java.math.BigInteger.valueOf(65521)).intValue();
        int added = draw / 64 % 41 - 20;
        switch (draw % 4) {
            case 0: return 9 + added;
            case 1: return 9 + 2 * added;
            case 2: return Math.max(0, 9 + added);
            default: return Math.max(0, 9 + added / 2);
        }
    }

    private static void dayChangesNothing() {
        HeavyChains x = new HeavyChains();
        int first = x.day(77, 20, 0);
        check.due("26: the same day again", x.day(77, 20, 0), first);
        check.due("26: count(8)", x.count(8), E + 55);
        check.due("26: count(5)", x.count(5), 0);
        x.set(0, 6);
        x.undo();
        check.due("26: from now on", x.day(77, 20, 0), first);
    }

    private static void dayWrong() {
        HeavyChains x = new HeavyChains();
        int[][] wrong = {{-1, 1, 0}, {10000, 1, 0}, {0, 0, 0}, {0, 21, 0}, {0, 1, -1}, {0, 1, 2}};
        for (int[] w : wrong) {
            check.due("26: day wrong", x.day(w[0], w[1], w[2]), Check.BAD);
        }
    }
}

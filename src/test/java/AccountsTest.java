/** Promises 1 to 7: a new object, write, wipe, fault, lay, post, at. */
public final class AccountsTest {
    private static final Check check = new Check();

    public static void main(String[] args) {
        newObject();
        write();
        wipe();
        faultNone();
        faultOfUppers();
        faultOfOthers();
        faultAtTheEnd();
        lay();
        layTellsLastOnes();
        layForgets();
        layRefused();
        postOfShape();
        postHeavyOfSeveral();
        postWrong();
        at();
        mostPosts();
        check.end();
    }

    private static void newObject() {
        HeavyChains x = new HeavyChains();
        int[] first = {14, 7, 0, 0, 0, 0, 0, 0, Check.EVEN + 55};
        for (int what = 0; what < first.length; what++) {
            check.due("1: count(" + what + ")", x.count(what), first[what]);
        }
        int[] upper = {Check.NONE, 0, 0, 1, 1, 2, 2, 3, 3, 4, 4, 5, 5, 6};
        int[] amount = {5, 0, 8, 2, 7, 1, 9, 3, 6, 4, 0, 2, 8, 0};
        int[] factor = {1, 2, 1, 3, 1, 4, 1, 5, 1, 2, 1, 3, 1, 1};
        int[] shift = {3, 0, 2, 1, 0, 4, 5, 6, 7, 0, 1, 2, 3, 0};
        for (int i = 0; i < 14; i++) {
            check.due("1: post(" + i + ", 0)", x.post(i, 0), upper[i]);
            check.due("1: post(" + i + ", 6)", x.post(i, 6), Check.EVEN + amount[i]);
            check.due("1: post(" + i + ", 7)", x.post(i, 7), factor[i]);
            check.due("1: post(" + i + ", 8)", x.post(i, 8), shift[i]);
        }
    }

    private static void write() {
        HeavyChains x = new HeavyChains();
        check.due("2: write(31)", x.write(31), Check.BAD);
        check.due("2: write(127)", x.write(127), Check.BAD);
        check.due("2: write(-1)", x.write(-1), Check.BAD);
        check.due("2: write(65536 + 112)", x.write(65536 + 112), Check.BAD);
        check.due("2: count(7)", x.count(7), 0);
        check.due("2: write(32)", x.write(32), 1);
        check.due("2: write(126)", x.write(126), 2);
        for (int k = 3; k <= 200; k++) {
            check.due("2: write(48), letter " + k, x.write(48), k);
        }
        check.due("2: write(48), letter 201", x.write(48), Check.FULL);
        check.due("2: write(31), full", x.write(31), Check.BAD);
        check.due("2: count(7), full", x.count(7), 200);
    }

    private static void wipe() {
        HeavyChains x = new HeavyChains();
        check.due("3: wipe(), empty", x.wipe(), 0);
        Check.write(x, "p0;");
        check.due("3: wipe()", x.wipe(), 3);
        check.due("3: count(7)", x.count(7), 0);
        check.due("3: count(0), still laid", x.count(0), 14);
        for (int k = 0; k < 200; k++) {
            x.write(48);
        }
        check.due("3: wipe(), full", x.wipe(), 200);
        check.due("3: write(112), wiped", x.write(112), 1);
    }

    private static void faultNone() {
        for (String text : new String[] {"", "p;", "p0;", "p01;w;", "p01;f;g;w;", "p0;w99;w0;w9;", "p00;f000;g999;",
                "p00000000009a;", "p0123456789abcdefghijklmnopqrs;"}) {
            check.due("4: fault of " + text, Check.faultOf(text), Check.NONE);
        }
    }

    private static void faultOfUppers() {
        for (String text : new String[] {"p", "p0", "p1;", "p02;", "pa;", "p0t;", "p 0;", "p0 ;", "P0;", ";", " p0;",
                "w1;p0;", "f;", "g0;", "p0123456789abcdefghijklmnopqrs0;", "p000000000b;", "p0000000000b;", "p-;", "p:;", "pW;", "p0X;", "p0A;", "p0`;"}) {
            check.due("4: fault of " + text, Check.faultOf(text), 0);
        }
    }

    private static void faultOfOthers() {
        for (String text : new String[] {"p0;p0;", "p0;p;", "p0;w", "p0;w1", "p0;w123;", "p0;wa;", "p0;f1a;", "p0;gs;",
                "p0;x;", "p0;;", "p0; ", "p0;W1;", "p0;w1 ;", "p0;w1,2;", "p0;f012;", "p0;g000;", "p0;9;", "p0;w/;", "p0;wX;", "p0;f`;", "p0;gZ;"}) {
            check.due("4: fault of " + text, Check.faultOf(text), 3);
        }
        check.due("4: the first of two", Check.faultOf("p00;w12;f1234;x;"), 8);
        check.due("4: a p once more, one post", Check.faultOf("p;p;"), 2);
        check.due("4: behind good ones", Check.faultOf("p;w1;f2;g3;w45;"), 11);
    }

    /** Letters that were wiped, or that lie behind the last one, are not of the text. */
    private static void faultAtTheEnd() {
        HeavyChains x = new HeavyChains();
        Check.write(x, "p0;w1;");
        x.wipe();
        Check.write(x, "p0");
        check.due("4: a ; that was wiped", x.fault(), 0);
        check.due("4: count(7)", x.count(7), 2);
        check.due("4: a sign at the 200th letter", Check.faultOf("p" + "0".repeat(199)), 0);
        check.due("4: an item at the 200th letter", Check.faultOf("p;" + "w;".repeat(99)), Check.NONE);
        check.due("4: a letter at the 200th", Check.faultOf("p0;" + "w;".repeat(98) + "w"), 199);
    }

    private static void lay() {
        HeavyChains x = new HeavyChains();
        Check.write(x, "p001;w123;f45;g6;");
        check.due("5: lay()", x.lay(), 4);
        check.due("5: count(7), the text stays", x.count(7), 17);
        check.due("5: count(0)", x.count(0), 4);
        check.due("5: post(2, 6)", x.post(2, 6), Check.EVEN + 3);
        check.due("5: post(3, 6), nought without", x.post(3, 6), Check.EVEN);
        check.due("5: post(1, 7)", x.post(1, 7), 5);
        check.due("5: post(2, 7), one without", x.post(2, 7), 1);
        check.due("5: post(0, 8)", x.post(0, 8), 6);
        check.due("5: post(1, 8), nought without", x.post(1, 8), 0);
        check.due("5: lay() again", x.lay(), 4);
    }

    private static void layTellsLastOnes() {
        HeavyChains x = Check.laid("p0;w12;f34;g56;w7;f;g;");
        check.due("5: post(0, 6), last w", x.post(0, 6), Check.EVEN + 7);
        check.due("5: post(1, 6), last w", x.post(1, 6), Check.EVEN);
        check.due("5: post(0, 7), last f", x.post(0, 7), 1);
        check.due("5: post(0, 8), last g", x.post(0, 8), 0);
        x = Check.laid("p;");
        check.due("5: post(0, 7) of p;", x.post(0, 7), 1);
        check.due("5: count(8) of p;", x.count(8), Check.EVEN);
    }

    private static void layForgets() {
        HeavyChains x = new HeavyChains();
        x.mark(0, 13, 1);
        x.watch(0, 0, 9999);
        x.set(0, 77);
        x.keep();
        Check.write(x, "p00000000000000;");
        check.due("5: lay(), 15 posts", x.lay(), 15);
        for (int what = 2; what <= 6; what++) {
            check.due("5: count(" + what + "), laid anew", x.count(what), 0);
        }
        check.due("5: undo(), laid anew", x.undo(), Check.NO);
        check.due("5: back(), laid anew", x.back(), Check.NO);
        check.due("5: watch, laid anew", x.watch(0, 14, 0), 0);
        check.due("5: count(8), laid anew", x.count(8), Check.EVEN);
    }

    private static void layRefused() {
        for (String text : new String[] {"", "p0", "w1;", "p0;x;"}) {
            HeavyChains x = new HeavyChains();
            x.mark(0, 0, 1);
            x.watch(0, 0, 9999);
            x.set(0, 77);
            x.keep();
            Check.write(x, text);
            check.due("5: lay() of " + text, x.lay(), Check.NO);
            int[] still = {14, 7, 1, 1, 1, 1, 1, text.length(), Check.EVEN + 127};
            for (int what = 0; what < still.length; what++) {
                check.due("5: count(" + what + "), not laid", x.count(what), still[what]);
            }
            check.due("5: post(5, 7), not laid", x.post(5, 7), 4);
        }
    }

    /** 0 over 1, 2, 3; 1 over 4; 3 over 5, 6; 6 over 7. */
    private static void postOfShape() {
        HeavyChains x = Check.laid("p0001336;");
        int[][] due = {
            {Check.NONE, 3, 8, 0, 0, 0}, {0, 4, 2, 5, 1, 1}, {0, Check.NONE, 1, 7, 2, 1}, {0, 6, 4, 1, 0, 1},
            {1, Check.NONE, 1, 6, 1, 2}, {3, Check.NONE, 1, 4, 5, 2}, {3, 7, 2, 2, 0, 2}, {6, Check.NONE, 1, 3, 0, 3}};
        for (int i = 0; i < due.length; i++) {
            for (int what = 0; what < due[i].length; what++) {
                check.due("6: post(" + i + ", " + what + ")", x.post(i, what), due[i][what]);
            }
        }
        check.due("6: chains", x.count(1), 4);
    }

    private static void postHeavyOfSeveral() {
        HeavyChains x = Check.laid("p00012;");
        check.due("6: heavy is the lowest of the greatest", x.post(0, 1), 1);
        check.due("6: head of 4", x.post(4, 4), 0);
        check.due("6: head of 5", x.post(5, 4), 2);
        check.due("6: place of 2", x.post(2, 3), 3);
        check.due("6: place of 3", x.post(3, 3), 5);
    }

    private static void postWrong() {
        HeavyChains x = new HeavyChains();
        check.due("6: post(-1, 0)", x.post(-1, 0), Check.BAD);
        check.due("6: post(14, 0)", x.post(14, 0), Check.BAD);
        check.due("6: post(0, -1)", x.post(0, -1), Check.BAD);
        check.due("6: post(0, 9)", x.post(0, 9), Check.BAD);
        check.due("6: post(0, 0) is none, not bad", x.post(0, 0), Check.NONE);
        x.set(3, -40);
        check.due("6: post(3, 6) below 0", x.post(3, 6), Check.EVEN - 40);
    }

    private static void at() {
        HeavyChains x = Check.laid("p0001336;");
        int[] row = {0, 3, 6, 7, 5, 1, 4, 2};
        for (int place = 0; place < row.length; place++) {
            check.due("7: at(" + place + ")", x.at(place), row[place]);
        }
        check.due("7: at(-1)", x.at(-1), Check.BAD);
        check.due("7: at(8)", x.at(8), Check.BAD);
    }

    private static void mostPosts() {
        HeavyChains x = Check.laid("p0123456789abcdefghijklmnopqrs;w012345678901234567890123456789;");
        check.due("5: 30 posts", x.count(0), 30);
        check.due("6: a chain of 30", x.post(29, 5), 29);
        check.due("6: its upper", x.post(29, 0), 28);
        check.due("6: amount of 29", x.post(29, 6), Check.EVEN + 9);
        check.due("7: at(29)", x.at(29), 29);
        check.due("6: one chain", x.count(1), 1);
        x = Check.laid("p00000000000000000000000000000;");
        check.due("6: a star of 30", x.count(1), 29);
        check.due("6: head of 29", x.post(29, 4), 29);
        check.due("6: head of 1", x.post(1, 4), 0);
    }
}

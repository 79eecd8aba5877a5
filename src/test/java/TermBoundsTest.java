/**
 * The sentences of the document's "Terms" that set a bound, a test for each: at the bound, one step inside it and one
 * step outside it. What a refused call leaves behind is looked at in RefusedTest.
 */
public final class TermBoundsTest {
    private static final Check check = new Check();
    private static final int BAD = Check.BAD, NO = Check.NO, FULL = Check.FULL, NONE = Check.NONE, E = Check.EVEN;
    private static final String SIGNS = "0123456789abcdefghijklmnopqrs";

    public static void main(String[] args) {
        textBounds();
        treeBounds();
        wayBounds();
        addedBounds();
        undoneBounds();
        markAndWatchBounds();
        allWaysBounds();
        keptBounds();
        check.end();
    }

    private static void textBounds() {
        postsOneToThirty();
        upperOfALowerNumber();
        textOfTwoHundred();
        signsNoughtToS();
        semicolonBehind();
        upperSignsNoughtToTwentyNine();
        uppersToldOnce();
        uppersAheadOfAll();
        figuresNoughtToNine();
        figuresAsManyAsPostsOrFewer();
        figuresWithout();
        figuresTheLastOne();
        faultIsTheFirst();
        laidWithAP();
    }

    private static void treeBounds() {
        sizeOfOne();
        heavyOfSeveralTheLowest();
        rowOthersLowestFirst();
        chainOfOne();
    }

    private static void wayBounds() {
        wayOfOnePost();
        wayMeetsAtAnEnd();
        piecesOneOrMore();
        gainNoughtAtLeast();
        throughNoughtToNinetySix();
        throughWrapsAtNinetySeven();
    }

    private static void addedBounds() {
        addedNumbers();
        kindsNoughtToThree();
        plainAtTheBounds();
        twiceAtTheBounds();
        dryAtTheBounds();
        leanAtTheBounds();
        leanCutTowardsNought();
        notIfOneWouldNotBe();
        amountsToldAnew();
        figuresToldAnew();
    }

    private static void undoneBounds() {
        undoneTheLastEight();
        undoneAcrossTheWrap();
    }

    private static void markAndWatchBounds() {
        markedOrCleared();
        turnedAtTheEnds();
        nearestOfSeveralTheLowest();
        nearestOfNone();
        watchesTwelveAtATime();
        watchesNumberedSinceLaid();
        watchesOfSoMuch();
        settledAtSoMuch();
        settledInOrder();
        settledEachByItsOwn();
        marksAndWatchesNeverUndone();
        marksAndWatchesNeverKept();
        laidThereAreNone();
        laidNothingUndoneKept();
    }

    private static void allWaysBounds() {
        richestOfSeveral();
        richestAtTheBounds();
        longestOfSeveral();
    }

    private static void keptBounds() {
        keptTwoAtMost();
        keptAreFiguresToo();
    }

    private static void faultOf(String why, String text, int due) {
        check.due(why + ", fault of " + text, Check.faultOf(text), due);
    }

    private static int layOf(String text) {
        HeavyChains x = new HeavyChains();
        Check.write(x, text);
        return x.lay();
    }

    private static HeavyChains one(int amount) {
        HeavyChains x = Check.laid("p;");
        x.set(0, amount);
        return x;
    }

    // ---- the text

    /** "There are POSTS 0 to n less 1 (n 1 to 30)." */
    private static void postsOneToThirty() {
        check.due("n 0: no p, no posts", layOf(""), NO);
        for (int n : new int[] {1, 2, 29, 30}) {
            HeavyChains x = Check.laid("p" + "0".repeat(n - 1) + ";");
            check.due("n " + n + ": count(0)", x.count(0), n);
            check.due("n " + n + ": size of 0", x.post(0, 2), n);
            check.due("n " + n + ": the last post", x.post(n - 1, 2), 1);
            check.due("n " + n + ": none behind it", x.post(n, 2), BAD);
            check.due("n " + n + ": the last place", x.at(n - 1), n - 1);
            check.due("n " + n + ": none behind that", x.at(n), BAD);
        }
        check.due("n 31", layOf("p" + "0".repeat(30) + ";"), NO);
        check.due("n 32", layOf("p" + "0".repeat(31) + ";"), NO);
    }

    /** "each other one has an UPPER one of a lower number", "each less than its POST's number" */
    private static void upperOfALowerNumber() {
        for (int i = 1; i <= 29; i++) {
            String ahead = "p" + "0".repeat(i - 1);
            String good = ahead + SIGNS.charAt(i - 1) + ";";
            faultOf("one lower", good, NONE);
            check.due("upper of " + i, Check.laid(good).post(i, 0), i - 1);
            if (i > 1) {
                faultOf("two lower", ahead + SIGNS.charAt(i - 2) + ";", NONE);
            }
            if (i < 29) {
                faultOf("its own number", ahead + SIGNS.charAt(i) + ";", 0);
            }
            if (i < 28) {
                faultOf("one higher", ahead + SIGNS.charAt(i + 1) + ";", 0);
            }
        }
        check.due("POST 0 is above all", new HeavyChains().post(0, 0), NONE);
    }

    /** "A TEXT is letters (200 at most)" */
    private static void textOfTwoHundred() {
        String text = "p0000;" + "w12345;".repeat(27) + "f1;g";
        HeavyChains x = new HeavyChains();
        Check.write(x, text);
        check.due("199 letters", x.count(7), 199);
        check.due("199 letters, fault", x.fault(), 198);
        check.due("letter 200", x.write(';'), 200);
        check.due("200 letters, fault", x.fault(), NONE);
        check.due("letter 201", x.write(';'), FULL);
        check.due("200 letters still", x.count(7), 200);
        check.due("200 letters, fault still", x.fault(), NONE);
        check.due("200 letters, lay", x.lay(), 5);
        check.due("the last w", x.post(4, 6), E + 5);
    }

    /** "signs are 0 to 9, a (10) to s (28)" */
    private static void signsNoughtToS() {
        String ahead = "p" + "0".repeat(28);
        for (int sign = 32; sign <= 126; sign++) {
            if (sign == ';') {
                continue;
            }
            int value = SIGNS.indexOf(sign);
            String text = ahead + (char) sign + ";";
            faultOf("sign " + (char) sign, text, value >= 0 ? NONE : 0);
            if (value >= 0) {
                check.due("value of " + (char) sign, Check.laid(text).post(29, 0), value);
            }
        }
        for (char sign : new char[] {'/', ':', '`', 't', 'A', 'S'}) {
            faultOf("no sign " + sign + " in w", "p00;w" + sign + ";", 4);
        }
    }

    /** "and a ; behind it" */
    private static void semicolonBehind() {
        faultOf("one ;", "p0;", NONE);
        faultOf("no ;", "p0", 0);
        faultOf("two ;", "p0;;", 3);
        faultOf("no ; between", "p0w1;", 0);
        faultOf("no ; at the end", "p0;w1;f1", 6);
        faultOf("a letter alone at the end", "p0;w1;f", 6);
        faultOf("a gap ahead", " p0;", 0);
        faultOf("a gap between", "p0; w1;", 3);
        faultOf("a gap behind", "p0;w1; ", 6);
    }

    /** "(0 to 29 signs ...)" */
    private static void upperSignsNoughtToTwentyNine() {
        for (int signs : new int[] {0, 1, 28, 29}) {
            check.due(signs + " signs", layOf("p" + "0".repeat(signs) + ";"), signs + 1);
        }
        for (int signs : new int[] {30, 31, 198}) {
            faultOf(signs + " signs", "p" + "0".repeat(signs) + ";", 0);
            check.due(signs + " signs", layOf("p" + "0".repeat(signs) + ";"), NO);
        }
    }

    /** "told just once" */
    private static void uppersToldOnce() {
        faultOf("once", "p0;w1;", NONE);
        faultOf("twice, next to each other", "p0;p0;", 3);
        faultOf("twice, the first without signs", "p;p0;", 2);
        faultOf("twice, both without signs", "p;p;", 2);
        faultOf("twice, others between", "p0;w1;f1;g1;p0;", 12);
        check.due("twice is not laid", layOf("p0;p0;"), NO);
    }

    /** "ahead of all others" */
    private static void uppersAheadOfAll() {
        for (String item : new String[] {"w", "f", "g"}) {
            faultOf("ahead of " + item, "p0;" + item + "1;", NONE);
            faultOf("behind " + item, item + "1;p0;", 0);
            faultOf("behind an empty " + item, item + ";p0;", 0);
            faultOf("without a p", item + ";", 0);
        }
    }

    /** "(0 to 9 each)" of AMOUNTS, FACTORS and SHIFTS in a TEXT */
    private static void figuresNoughtToNine() {
        for (int item = 0; item < 3; item++) {
            String letter = "wfg".substring(item, item + 1);
            for (int figure = 0; figure <= 28; figure++) {
                String text = "p0;" + letter + "1" + SIGNS.charAt(figure) + ";";
                faultOf("figure " + figure, text, figure <= 9 ? NONE : 3);
                if (figure <= 9) {
                    check.due("figure of " + text, Check.laid(text).post(1, 6 + item), figure + (item == 0 ? E : 0));
                }
            }
        }
    }

    /** "(as many signs as there are POSTS, or fewer ...)" */
    private static void figuresAsManyAsPostsOrFewer() {
        for (int n : new int[] {1, 2, 29, 30}) {
            String ahead = "p" + "0".repeat(n - 1) + ";";
            for (String letter : new String[] {"w", "f", "g"}) {
                faultOf("none", ahead + letter + ";", NONE);
                faultOf("one fewer", ahead + letter + "7".repeat(n - 1) + ";", NONE);
                faultOf("as many", ahead + letter + "7".repeat(n) + ";", NONE);
                faultOf("one more", ahead + letter + "7".repeat(n + 1) + ";", n + 1);
                faultOf("two more", ahead + letter + "7".repeat(n + 2) + ";", n + 1);
            }
        }
    }

    /** "noughts without", "(ones without)", "(noughts without)" */
    private static void figuresWithout() {
        for (int signs = 0; signs <= 3; signs++) {
            String figures = "777".substring(0, signs) + ";";
            HeavyChains x = Check.laid("p00;w" + figures + "f" + figures + "g" + figures);
            for (int i = 0; i < 3; i++) {
                check.due(signs + " signs, amount of " + i, x.post(i, 6), E + (i < signs ? 7 : 0));
                check.due(signs + " signs, factor of " + i, x.post(i, 7), i < signs ? 7 : 1);
                check.due(signs + " signs, shift of " + i, x.post(i, 8), i < signs ? 7 : 0);
            }
        }
        HeavyChains x = Check.laid("p00;");
        for (int i = 0; i < 3; i++) {
            check.due("no item, amount of " + i, x.post(i, 6), E);
            check.due("no item, factor of " + i, x.post(i, 7), 1);
            check.due("no item, shift of " + i, x.post(i, 8), 0);
        }
    }

    /** "the last one" */
    private static void figuresTheLastOne() {
        String[] ahead = {"p0;", "p0;w55;f55;g55;", "p0;w55;f55;g55;w6;g6;f6;", "p0;w5;f5;g5;w;g;f;"};
        for (String text : ahead) {
            figuresOf(Check.laid(text + "w89;f78;g67;"), new int[] {8, 9, 7, 8, 6, 7});
        }
        figuresOf(Check.laid("p0;w55;f55;g55;w6;f6;g6;"), new int[] {6, 0, 6, 1, 6, 0});
        figuresOf(Check.laid("p0;w55;f55;g55;w;f;g;"), new int[] {0, 0, 1, 1, 0, 0});
    }

    private static void figuresOf(HeavyChains x, int[] due) {
        for (int what = 6; what <= 8; what++) {
            for (int i = 0; i < 2; i++) {
                check.due("the last one: post(" + i + ", " + what + ")", x.post(i, what),
                        due[2 * (what - 6) + i] + (what == 6 ? E : 0));
            }
        }
    }

    /** "FAULT: the place of the first letter of the first ITEM that is not so." */
    private static void faultIsTheFirst() {
        faultOf("the first of three", "p0;w111;f111;g111;", 3);
        faultOf("the second item", "p0;w11;f111;g111;", 7);
        faultOf("the third item", "p0;w11;f11;g111;", 11);
        faultOf("none", "p0;w11;f11;g11;", NONE);
        faultOf("its first letter, not its first wrong sign", "p0;w1111111111t;", 3);
        faultOf("at the last place", "p;" + "w;".repeat(98) + "w", 198);
        faultOf("of an empty text", "", NONE);
    }

    /** "LAID is a TEXT without FAULT, with a p (NO else; at first ...)" */
    private static void laidWithAP() {
        check.due("no fault, no p", layOf(""), NO);
        check.due("a p, no fault", layOf("p;"), 1);
        check.due("a p, a fault behind", layOf("p;x;"), NO);
        check.due("a p, a fault at the last letter", layOf("p;w"), NO);
        HeavyChains x = new HeavyChains();
        check.due("at first, posts", x.count(0), 14);
        check.due("at first, the text is empty", x.count(7), 0);
        check.due("at first, no fault", x.fault(), NONE);
        check.due("at first, lay", x.lay(), NO);
    }

    // ---- the tree

    /** "SIZE of a POST: it and all below." */
    private static void sizeOfOne() {
        HeavyChains x = Check.laid("p011;");
        int[] due = {4, 3, 1, 1};
        for (int i = 0; i < 4; i++) {
            check.due("size of " + i, x.post(i, 2), due[i]);
        }
        check.due("size of one post", Check.laid("p;").post(0, 2), 1);
    }

    /** "HEAVY is that of its lower ones of greatest SIZE, of several the lowest." */
    private static void heavyOfSeveralTheLowest() {
        check.due("of none", Check.laid("p;").post(0, 1), NONE);
        check.due("of one", Check.laid("p0;").post(0, 1), 1);
        check.due("of two alike", Check.laid("p00;").post(0, 1), 1);
        check.due("of three alike, greater than one", Check.laid("p0000234;").post(0, 1), 2);
        check.due("one more in the higher one", Check.laid("p002;").post(0, 1), 2);
        check.due("one more in the lower one", Check.laid("p001;").post(0, 1), 1);
        check.due("two each", Check.laid("p0021;").post(0, 1), 1);
        check.due("three to two", Check.laid("p00212;").post(0, 1), 2);
    }

    /** "behind a POST its HEAVY one and all of that, then its others, the lowest first, each with all of it" */
    private static void rowOthersLowestFirst() {
        HeavyChains x = Check.laid("p0000331;");
        int[] row = {0, 3, 5, 6, 1, 7, 2, 4};
        for (int place = 0; place < row.length; place++) {
            check.due("at(" + place + ")", x.at(place), row[place]);
            check.due("place of " + row[place], x.post(row[place], 3), place);
        }
    }

    /** "A CHAIN: a POST that is not HEAVY, its HEAVY one, that one's, and so on; its HEAD is the first." */
    private static void chainOfOne() {
        HeavyChains x = Check.laid("p0011;");
        int[] head = {0, 0, 2, 0, 4};
        for (int i = 0; i < head.length; i++) {
            check.due("head of " + i, x.post(i, 4), head[i]);
        }
        check.due("chains", x.count(1), 3);
        check.due("chains of one post", Check.laid("p;").count(1), 1);
        check.due("chains of two posts", Check.laid("p0;").count(1), 1);
        check.due("chains of a star of 30", Check.laid("p" + "0".repeat(29) + ";").count(1), 29);
        check.due("chains of a row of 30", Check.laid("p" + SIGNS + ";").count(1), 1);
    }

    // ---- ways

    /** "POSTS from u upward to ... (MEET), down to v, u and v too" */
    private static void wayOfOnePost() {
        HeavyChains x = Check.laid("p01;w579;f234;g111;");
        int[] due = {1, 1, 2, E + 9, E + 9, E + 9, 0, 0};
        for (int what = 0; what < due.length; what++) {
            check.due("way(2, 2, " + what + ")", x.way(2, 2, what), due[what]);
        }
        check.due("way(2, 1, 0), one more", x.way(2, 1, 0), 2);
        check.due("way(2, 0, 0), all", x.way(2, 0, 0), 3);
        check.due("the longest way there can be", Check.laid("p" + SIGNS + ";").way(29, 0, 0), 30);
    }

    /** "the lowest one that is above both or one of them (MEET)" */
    private static void wayMeetsAtAnEnd() {
        HeavyChains x = Check.laid("p01133;");
        check.due("one itself", x.way(5, 5, 2), 5);
        check.due("the upper one is an end", x.way(5, 3, 2), 3);
        check.due("the upper one is the other end", x.way(1, 5, 2), 1);
        check.due("next to each other", x.way(4, 5, 2), 3);
        check.due("not one further up", x.way(4, 2, 2), 1);
        check.due("at 0", x.way(0, 4, 2), 0);
    }

    /** "PIECES: how many runs of POSTS of one CHAIN it has." */
    private static void piecesOneOrMore() {
        HeavyChains x = Check.laid("p0011;");
        check.due("one post of a chain", x.way(3, 3, 1), 1);
        check.due("a chain of three", x.way(3, 0, 1), 1);
        check.due("one beside it", x.way(4, 0, 1), 2);
        check.due("one at each end", x.way(4, 2, 1), 3);
    }

    /** "GAIN ...: the greatest of what a later POST of it has more than an earlier one, or the same one (0)" */
    private static void gainNoughtAtLeast() {
        HeavyChains x = Check.laid("p0;");
        int[][] due = {{0, 0, 0}, {0, 1, 1}, {1, 0, 0}, {-9999, 9999, 19998}, {9999, -9999, 0}, {-9998, 9999, 19997}};
        for (int[] d : due) {
            x.set(0, d[0]);
            x.set(1, d[1]);
            check.due("gain from " + d[0] + " to " + d[1], x.way(0, 1, 6), d[2]);
        }
        check.due("gain of one post", x.way(1, 1, 6), 0);
    }

    /** "THROUGH it goes a number x (0 to 96)" */
    private static void throughNoughtToNinetySix() {
        HeavyChains x = Check.laid("p;");
        for (int number : new int[] {0, 1, 95, 96}) {
            check.due("through of " + number, x.through(0, 0, number), number);
        }
        for (int number : new int[] {-1, 97, -97, 98, Integer.MIN_VALUE, Integer.MAX_VALUE}) {
            check.due("through of " + number, x.through(0, 0, number), BAD);
        }
    }

    /** "at each POST in order it becomes (FACTOR times it, and SHIFT) modulo 97" */
    private static void throughWrapsAtNinetySeven() {
        HeavyChains x = Check.laid("p;g1;");
        check.due("94 and 1", x.through(0, 0, 94), 95);
        check.due("95 and 1", x.through(0, 0, 95), 96);
        check.due("96 and 1 is 97", x.through(0, 0, 96), 0);
        x.shape(0, 9, 9);
        check.due("9 times 96 and 9", x.through(0, 0, 96), 873 % 97);
        check.due("9 times 95 and 9", x.through(0, 0, 95), 864 % 97);
        x.shape(0, 0, 0);
        check.due("0 times 96", x.through(0, 0, 96), 0);
        x = Check.laid("p0;f29;g19;");
        check.due("48 through both: 97 is 0, 9", x.through(0, 1, 48), 9);
        check.due("47 through both: 95, 864", x.through(0, 1, 47), 864 % 97);
        check.due("48 back: 441 % 97 = 53, 107", x.through(1, 0, 48), 10);
    }

    // ---- added

    /** "x (-999 to 999)" */
    private static void addedNumbers() {
        for (int number : new int[] {-999, -998, 998, 999}) {
            check.due("add of " + number, one(0).add(0, 0, number, 0), E + number);
            check.due("pour of " + number, one(0).pour(0, number, 0), E + number);
        }
        for (int number : new int[] {-1000, 1000, -1001, 1001, Integer.MIN_VALUE, Integer.MAX_VALUE}) {
            for (int kind = 0; kind < 4; kind++) {
                check.due("add of " + number + " by " + kind, one(0).add(0, 0, number, kind), BAD);
                check.due("pour of " + number + " by " + kind, one(0).pour(0, number, kind), BAD);
            }
        }
    }

    /** "by a KIND (0 PLAIN, 1 TWICE, 2 DRY, 3 LEAN)" */
    private static void kindsNoughtToThree() {
        int[] due = {-8, -26, 0, 1};
        for (int kind = 0; kind < 4; kind++) {
            check.due("add by " + kind, one(10).add(0, 0, -18, kind), E + due[kind]);
            check.due("pour by " + kind, one(10).pour(0, -18, kind), E + due[kind]);
        }
        for (int kind : new int[] {-1, 4, Integer.MIN_VALUE, Integer.MAX_VALUE}) {
            check.due("add by " + kind, one(10).add(0, 0, -18, kind), BAD);
            check.due("pour by " + kind, one(10).pour(0, -18, kind), BAD);
        }
    }

    private static void bothAdd(int amount, int number, int kind, int due) {
        String call = amount + " added by " + kind + ", " + number;
        check.due("add: " + call, one(amount).add(0, 0, number, kind), due);
        check.due("pour: " + call, one(amount).pour(0, number, kind), due);
    }

    /** "PLAIN x more" "(not, if one would not be -9999 to 9999 then)" */
    private static void plainAtTheBounds() {
        bothAdd(9000, 998, 0, E + 9998);
        bothAdd(9000, 999, 0, E + 9999);
        bothAdd(9001, 999, 0, NO);
        bothAdd(9999, 0, 0, E + 9999);
        bothAdd(9999, 1, 0, NO);
        bothAdd(-9000, -998, 0, E - 9998);
        bothAdd(-9000, -999, 0, E - 9999);
        bothAdd(-9001, -999, 0, NO);
        bothAdd(-9999, 0, 0, E - 9999);
        bothAdd(-9999, -1, 0, NO);
    }

    /** "TWICE as PLAIN by twice x" */
    private static void twiceAtTheBounds() {
        bothAdd(8000, 999, 1, E + 9998);
        bothAdd(8001, 999, 1, E + 9999);
        bothAdd(8002, 999, 1, NO);
        bothAdd(9998, 1, 1, NO);
        bothAdd(9997, 1, 1, E + 9999);
        bothAdd(-8000, -999, 1, E - 9998);
        bothAdd(-8001, -999, 1, E - 9999);
        bothAdd(-8002, -999, 1, NO);
        bothAdd(-9998, -1, 1, NO);
        bothAdd(-9997, -1, 1, E - 9999);
    }

    /** "DRY as PLAIN, 0 at least" */
    private static void dryAtTheBounds() {
        bothAdd(5, -4, 2, E + 1);
        bothAdd(5, -5, 2, E);
        bothAdd(5, -6, 2, E);
        bothAdd(-5, 6, 2, E + 1);
        bothAdd(-5, 5, 2, E);
        bothAdd(-5, 4, 2, E);
        bothAdd(-9999, -999, 2, E);
        bothAdd(9000, 999, 2, E + 9999);
        bothAdd(9001, 999, 2, NO);
        bothAdd(9001, 998, 2, E + 9999);
    }

    /** "LEAN as DRY by half of x" */
    private static void leanAtTheBounds() {
        bothAdd(5, -8, 3, E + 1);
        bothAdd(5, -10, 3, E);
        bothAdd(5, -12, 3, E);
        bothAdd(-9999, -999, 3, E);
        bothAdd(9499, 999, 3, E + 9998);
        bothAdd(9500, 999, 3, E + 9999);
        bothAdd(9501, 999, 3, NO);
        bothAdd(9501, 997, 3, E + 9999);
        bothAdd(9999, 1, 3, E + 9999);
        bothAdd(9999, 2, 3, NO);
    }

    /** "(cut towards 0)" */
    private static void leanCutTowardsNought() {
        int[] due = {98, 99, 99, 100, 100, 100, 101, 101, 102};
        for (int number = -4; number <= 4; number++) {
            bothAdd(100, number, 3, E + due[number + 4]);
        }
        bothAdd(1000, -999, 3, E + 501);
        bothAdd(1000, -998, 3, E + 501);
        bothAdd(1000, 999, 3, E + 1499);
        bothAdd(1000, 998, 3, E + 1499);
    }

    /** "It is ADDED so to all POSTS of a WAY, or to a POST and all below it (not, if one would not be ... then)." */
    private static void notIfOneWouldNotBe() {
        for (int which = 0; which < 4; which++) {
            for (int sign = -1; sign <= 1; sign += 2) {
                HeavyChains x = Check.laid("p012;");
                x.set(which, sign * 9990);
                check.due("add, one of them " + which, x.add(0, 3, sign * 10, 0), NO);
                check.due("add back, one of them " + which, x.add(3, 0, sign * 5, 1), NO);
                check.due("pour, one of them " + which, x.pour(0, sign * 10, 0), NO);
                check.due("nothing was added", x.count(8), E + sign * 9990);
                check.due("pour, just so", x.pour(0, sign * 9, 0), E + sign * (9990 + 36));
                check.due("add, none more", x.add(which, which, sign, 0), NO);
            }
        }
        HeavyChains x = Check.laid("p001;");
        x.set(2, 9999);
        check.due("beside the way", x.add(3, 0, 1, 0), E + 3);
        check.due("not below", x.pour(1, 1, 0), E + 4);
    }

    /** "AMOUNT (-9999 to 9999)", "told anew" */
    private static void amountsToldAnew() {
        for (int amount : new int[] {-9999, -9998, -1, 1, 9998, 9999}) {
            HeavyChains x = one(0);
            check.due("set to " + amount, x.set(0, amount), E);
            check.due("is " + amount, x.post(0, 6), E + amount);
            check.due("is so", x.set(0, amount), NO);
        }
        for (int amount : new int[] {-10000, 10000, Integer.MIN_VALUE, Integer.MAX_VALUE}) {
            check.due("set to " + amount, one(0).set(0, amount), BAD);
        }
    }

    /** "a FACTOR and a SHIFT (0 to 9 each)", "told anew" */
    private static void figuresToldAnew() {
        for (int figure : new int[] {0, 1, 8, 9}) {
            HeavyChains x = Check.laid("p;f5;g5;");
            check.due("factor " + figure, x.shape(0, figure, 5), 55);
            check.due("shift " + figure, x.shape(0, figure, figure), 10 * figure + 5);
            check.due("both are so", x.shape(0, figure, figure), NO);
            check.due("the factor is " + figure, x.post(0, 7), figure);
            check.due("the shift is " + figure, x.post(0, 8), figure);
        }
        for (int figure : new int[] {-1, 10, Integer.MIN_VALUE, Integer.MAX_VALUE}) {
            HeavyChains x = Check.laid("p;f5;g5;");
            check.due("factor " + figure, x.shape(0, figure, 5), BAD);
            check.due("shift " + figure, x.shape(0, 5, figure), BAD);
        }
    }

    // ---- undone

    /** "UNDONE are the latest of these (the last 8 can be)." */
    private static void undoneTheLastEight() {
        for (int acts : new int[] {0, 1, 7, 8, 9, 10, 17}) {
            HeavyChains x = one(0);
            for (int k = 0; k < 8; k++) {
                x.undo();
            }
            for (int k = 1; k <= acts; k++) {
                x.set(0, k);
            }
            int can = Math.min(acts, 8);
            check.due(acts + " acts, can be undone", x.count(5), can);
            for (int left = can - 1; left >= 0; left--) {
                check.due(acts + " acts, undo", x.undo(), left);
                check.due(acts + " acts, amount", x.post(0, 6), E + acts - can + left);
            }
            check.due(acts + " acts, one more", x.undo(), NO);
            check.due(acts + " acts, amount still", x.post(0, 6), E + acts - can);
        }
    }

    /** Acts and undone ones in turn, so that the oldest of the eight lies anywhere. */
    private static void undoneAcrossTheWrap() {
        HeavyChains x = Check.laid("p;");
        int amount = 0;
        for (int turns = 0; turns < 6; turns++) {
            for (int k = 0; k < 3; k++) {
                amount++;
                x.set(0, amount);
            }
            amount--;
            check.due("undo, turn " + turns, x.undo(), Math.min(2 * turns + 2, 7));
            check.due("amount, turn " + turns, x.post(0, 6), E + amount);
        }
        for (int left = 6; left >= 0; left--) {
            amount--;
            check.due("undo", x.undo(), left);
            check.due("amount", x.post(0, 6), E + amount);
        }
        check.due("one more", x.undo(), NO);
    }

    // ---- marks and watches

    /** "all POSTS of a WAY are MARKED, or CLEARED" */
    private static void markedOrCleared() {
        HeavyChains x = Check.laid("p01;");
        check.due("cleared, none marked", x.mark(0, 2, 0), 0);
        check.due("one marked", x.mark(1, 1, 1), 1);
        check.due("the others marked", x.mark(0, 2, 1), 2);
        check.due("all are", x.mark(2, 0, 1), 0);
        check.due("all three", x.count(2), 3);
        check.due("one cleared", x.mark(1, 1, 0), 1);
        check.due("the others cleared", x.mark(2, 0, 0), 2);
        check.due("none", x.count(2), 0);
    }

    /** "all of a POST and below turned (CLEARED, if MARKED, MARKED else)" */
    private static void turnedAtTheEnds() {
        HeavyChains x = Check.laid("p" + "0".repeat(29) + ";");
        check.due("the last one", x.turn(29), 1);
        check.due("all, the last one is cleared", x.turn(0), 29);
        check.due("all again", x.turn(0), 1);
        check.due("the last one again", x.turn(29), 0);
        check.due("all of them", x.turn(0), 30);
        check.due("none of them", x.turn(0), 0);
    }

    /** "of MARKED ones that to which the WAY has fewest POSTS, of several the lowest" */
    private static void nearestOfSeveralTheLowest() {
        HeavyChains x = Check.laid("p0123;");
        x.mark(0, 0, 1);
        x.mark(4, 4, 1);
        int[] due = {0, 0, 0, 4, 4};
        for (int u = 0; u < due.length; u++) {
            check.due("nearest(" + u + ")", x.nearest(u), due[u]);
        }
    }

    /** "none" */
    private static void nearestOfNone() {
        HeavyChains x = Check.laid("p0;");
        check.due("none marked", x.nearest(1), NONE);
        x.mark(0, 0, 1);
        check.due("one marked", x.nearest(1), 0);
        x.mark(0, 0, 0);
        check.due("none marked again", x.nearest(1), NONE);
    }

    /** "12 at most at a time" */
    private static void watchesTwelveAtATime() {
        HeavyChains x = Check.laid("p;");
        for (int k = 0; k < 12; k++) {
            check.due("watch " + k, x.watch(0, 0, k == 6 ? 0 : 1), k);
            check.due("that wait", x.count(3), k + 1);
        }
        check.due("a thirteenth", x.watch(0, 0, 1), FULL);
        check.due("12 wait", x.count(3), 12);
        check.due("12 so far", x.count(4), 12);
        check.due("one goes", x.settle(), 1);
        check.due("one more", x.watch(0, 0, 1), 12);
        check.due("full again", x.watch(0, 0, 1), FULL);
        check.due("13 so far", x.count(4), 13);
        check.due("the last one", x.waits(11), 12);
    }

    /** "numbered from 0 on since LAID" */
    private static void watchesNumberedSinceLaid() {
        HeavyChains x = new HeavyChains();
        check.due("the first", x.watch(0, 0, 99), 0);
        check.due("the second", x.watch(0, 0, 99), 1);
        check.due("not laid", x.lay(), NO);
        check.due("the third", x.watch(0, 0, 99), 2);
        Check.write(x, "p;");
        check.due("laid", x.lay(), 1);
        check.due("the first again", x.watch(0, 0, 0), 0);
        x.settle();
        check.due("not the first again", x.watch(0, 0, 0), 1);
    }

    /** "a WATCH waits for a WAY to have a SUM of so much (-9999 to 9999)" */
    private static void watchesOfSoMuch() {
        for (int much : new int[] {-9999, -9998, 0, 9998, 9999}) {
            check.due("watch of " + much, Check.laid("p;").watch(0, 0, much), 0);
        }
        for (int much : new int[] {-10000, 10000, Integer.MIN_VALUE, Integer.MAX_VALUE}) {
            check.due("watch of " + much, Check.laid("p;").watch(0, 0, much), BAD);
        }
    }

    /** "those whose WAY's SUM is so much or more now go" */
    private static void settledAtSoMuch() {
        for (int much : new int[] {-9998, -1, 0, 1, 9998}) {
            HeavyChains x = Check.laid("p0;");
            x.watch(1, 0, much);
            x.set(1, much - 1);
            check.due("one less than " + much, x.settle(), 0);
            x.set(1, much);
            check.due("just " + much, x.settle(), 1);
            check.due("gone", x.settle(), 0);
            x.watch(0, 1, much);
            x.set(0, 1);
            check.due("one more than " + much, x.settle(), 1);
        }
        HeavyChains x = Check.laid("p0;");
        x.watch(0, 1, 9999);
        x.pour(0, 999, 1);
        x.pour(0, 999, 1);
        check.due("7992 of 9999", x.settle(), 0);
        x.pour(0, 999, 1);
        check.due("11988 of 9999", x.settle(), 1);
    }

    /** "of all WATCHES, in order" */
    private static void settledInOrder() {
        HeavyChains x = Check.laid("p;w5;");
        for (int much : new int[] {9, 5, 8, 4, 7}) {
            x.watch(0, 0, much);
        }
        check.due("two go", x.settle(), 2);
        int[] due = {0, 2, 4, NONE};
        for (int k = 0; k < due.length; k++) {
            check.due("waits(" + k + ")", x.waits(k), due[k]);
        }
        x.set(0, 8);
        check.due("two more go", x.settle(), 2);
        check.due("the first waits still", x.waits(0), 0);
        check.due("it alone", x.waits(1), NONE);
    }

    /** Those that stay close up, and wait on for their own WAY and their own SUM. */
    private static void settledEachByItsOwn() {
        HeavyChains x = Check.laid("p000;");
        x.watch(0, 0, 0);
        x.watch(1, 1, 10);
        x.watch(2, 3, 20);
        x.watch(3, 0, 30);
        check.due("the first goes", x.settle(), 1);
        x.set(3, 19);
        check.due("19 of 20, 19 of 30, 0 of 10", x.settle(), 0);
        x.set(2, 1);
        check.due("20 of 20", x.settle(), 1);
        check.due("which wait", x.waits(0), 1);
        check.due("which wait", x.waits(1), 3);
        x.set(1, 9);
        check.due("9 of 10", x.settle(), 0);
        x.set(3, 30);
        check.due("30 of 30", x.settle(), 1);
        check.due("which waits", x.waits(0), 1);
        x.set(1, 10);
        check.due("10 of 10", x.settle(), 1);
    }

    /** "MARKS and WATCHES are never UNDONE" */
    private static void marksAndWatchesNeverUndone() {
        HeavyChains x = Check.laid("p0;");
        x.mark(0, 0, 1);
        x.watch(0, 0, 5);
        x.watch(0, 0, 6);
        x.set(0, 5);
        x.mark(1, 1, 1);
        x.turn(0);
        x.mark(1, 1, 1);
        check.due("one goes", x.settle(), 1);
        check.due("one act", x.count(5), 1);
        check.due("undo", x.undo(), 0);
        check.due("marked", x.count(2), 1);
        check.due("which", x.nearest(0), 1);
        check.due("the one that went is gone", x.waits(0), 1);
        check.due("so far", x.count(4), 2);
    }

    /** "nor KEPT" */
    private static void marksAndWatchesNeverKept() {
        HeavyChains x = Check.laid("p0;");
        x.mark(0, 0, 1);
        x.watch(0, 0, 5);
        x.keep();
        x.set(0, 5);
        x.mark(0, 0, 0);
        x.mark(1, 1, 1);
        check.due("one goes", x.settle(), 1);
        x.watch(0, 0, 5);
        check.due("back", x.back(), 0);
        check.due("which is marked", x.nearest(0), 1);
        check.due("that wait", x.count(3), 1);
        check.due("the one that waits", x.waits(0), 1);
        check.due("it waits for what is now", x.settle(), 0);
    }

    /** "LAID there are none" */
    private static void laidThereAreNone() {
        HeavyChains x = Check.laid("p" + "0".repeat(29) + ";");
        x.turn(0);
        for (int k = 0; k < 12; k++) {
            x.watch(k, 29, 99);
        }
        Check.write(x, "p;");
        check.due("one post", x.lay(), 1);
        check.due("none marked", x.count(2), 0);
        check.due("none waits", x.count(3), 0);
        x.wipe();
        Check.write(x, "p" + "0".repeat(29) + ";");
        check.due("30 posts", x.lay(), 30);
        check.due("none marked still", x.count(2), 0);
        check.due("none of all", x.marked(0), NONE);
        check.due("a watch has room", x.watch(29, 29, 0), 0);
    }

    /** "no MARKS, WATCHES, nothing UNDONE, KEPT" */
    private static void laidNothingUndoneKept() {
        HeavyChains x = Check.laid("p0;w12;");
        for (int k = 0; k < 9; k++) {
            x.set(0, 50 + k);
        }
        x.keep();
        x.keep();
        Check.write(x, "p0;w34;");
        check.due("laid", x.lay(), 2);
        check.due("none can be undone", x.count(5), 0);
        check.due("undo", x.undo(), NO);
        check.due("none is kept", x.count(6), 0);
        check.due("back", x.back(), NO);
        figuresOf(x, new int[] {3, 4, 1, 1, 0, 0});
        check.due("keep", x.keep(), 1);
        x.set(0, 5);
        check.due("one can be undone", x.undo(), 0);
        check.due("as it was", x.post(0, 6), E + 3);
    }

    // ---- all ways

    private static void best(String name, int[] got, int... due) {
        for (int what = 0; what < 3; what++) {
            check.due(name + "(" + what + ")", got[what], due[what]);
        }
    }

    private static int[] richest(HeavyChains x) {
        return new int[] {x.richest(0), x.richest(1), x.richest(2)};
    }

    private static int[] longest(HeavyChains x) {
        return new int[] {x.longest(0), x.longest(1), x.longest(2)};
    }

    /** "that of greatest SUM, of several the lowest u, then v" */
    private static void richestOfSeveral() {
        HeavyChains x = Check.laid("p0123;");
        best("all 0", richest(x), 0, 0, E);
        x.set(4, 1);
        best("the last one more", richest(x), 0, 4, E + 1);
        x.set(2, -1);
        best("the lowest u that has it", richest(x), 3, 4, E + 1);
        x.set(3, -1);
        best("one post", richest(x), 4, 4, E + 1);
        x.set(0, 1);
        best("one as much of lower numbers", richest(x), 0, 0, E + 1);
        x.set(1, 1);
        best("one more on the way", richest(x), 0, 1, E + 2);
        x = Check.laid("p000;w0777;");
        best("u of the lowest, then v", richest(x), 1, 2, E + 14);
    }

    private static void richestAtTheBounds() {
        HeavyChains x = Check.laid("p" + SIGNS + ";");
        for (int i = 0; i < 30; i++) {
            x.set(i, 9999);
        }
        best("30 posts of 9999", richest(x), 0, 29, E + 299970);
        for (int i = 0; i < 30; i++) {
            x.set(i, -9999);
        }
        best("30 posts of -9999", richest(x), 0, 0, E - 9999);
        check.due("their sum", x.count(8), E - 299970);
        check.due("the sum of their way", x.way(0, 29, 3), E - 299970);
        check.due("the sum below", x.below(0, 0), E - 299970);
        x.set(29, -9998);
        best("one of -9998", richest(x), 29, 29, E - 9998);
    }

    /** "LONGEST likewise by how many POSTS." */
    private static void longestOfSeveral() {
        best("one post", longest(Check.laid("p;")), 0, 0, 1);
        best("two posts", longest(Check.laid("p0;")), 0, 1, 2);
        best("of several the lowest u, then v", longest(Check.laid("p000;")), 1, 2, 3);
        best("v of several", longest(Check.laid("p001;")), 2, 3, 4);
        best("a star of 30", longest(Check.laid("p" + "0".repeat(29) + ";")), 1, 2, 3);
        best("a row of 30", longest(Check.laid("p" + SIGNS + ";")), 0, 29, 30);
    }

    // ---- kept

    /** "KEPT ...: 2 at most." */
    private static void keptTwoAtMost() {
        HeavyChains x = one(1);
        check.due("none kept", x.back(), NO);
        check.due("one kept", x.keep(), 1);
        x.set(0, 2);
        check.due("two kept", x.keep(), 2);
        x.set(0, 3);
        check.due("no third", x.keep(), FULL);
        check.due("two are", x.count(6), 2);
        check.due("the second", x.back(), 1);
        check.due("as kept second", x.post(0, 6), E + 2);
        check.due("the first", x.back(), 0);
        check.due("as kept first", x.post(0, 6), E + 1);
        check.due("none left", x.back(), NO);
        check.due("one kept again", x.keep(), 1);
    }

    /** "KEPT are AMOUNTS, FACTORS, SHIFTS" */
    private static void keptAreFiguresToo() {
        HeavyChains x = Check.laid("p0;w12;f34;g56;");
        x.keep();
        x.pour(0, 9, 0);
        x.shape(0, 0, 0);
        x.shape(1, 9, 9);
        x.back();
        figuresOf(x, new int[] {1, 2, 3, 4, 5, 6});
    }
}

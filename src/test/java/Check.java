/** What the tests share: answers compared with what is due, and texts laid letter by letter. */
final class Check {
    static final int BAD = -1, NO = -2, FULL = -3, NONE = -4, EVEN = 1000000;

    private int wrong = 0;
    private int looked = 0;

    void due(String call, long got, long want) {
        looked++;
        if (got != want) {
            wrong++;
            System.out.println(call + " answered " + got + ", due is " + want);
        }
    }

    int wrong() {
        return wrong;
    }

    /** Ends the program: with 1 if an answer was not as due, or if nothing was looked at. */
    void end() {
        System.out.println((looked - wrong) + " passed, " + wrong + " failed");
        System.exit(wrong == 0 && looked > 0 ? 0 : 1);
    }

    static void write(HeavyChains x, String text) {
        for (char letter : text.toCharArray()) {
            x.write(letter);
        }
    }

    static int faultOf(String text) {
        HeavyChains x = new HeavyChains();
        write(x, text);
        return x.fault();
    }

    static HeavyChains laid(String text) {
        HeavyChains x = new HeavyChains();
        write(x, text);
        if (x.lay() < 0) {
            throw new IllegalStateException("not laid: " + text);
        }
        x.wipe();
        return x;
    }
}

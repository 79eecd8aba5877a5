import java.util.Arrays;
import java.util.Random;

/** Long runs of drawn calls, good and wrong ones, each answer compared with the model's. */
public final class ModelTest {
    private static final Check check = new Check();
    private static final int CALLS = 29;
    private static final int[] FAR = {-1, -2, 0, 1, 13, 14, 29, 30, 31, 96, 97, 126, 127, 200, 999, 1000, -999, -1000,
        9999, 10000, -9999, -10000, 1 << 16, Integer.MAX_VALUE, Integer.MIN_VALUE};

    private final Random random;
    private final HeavyChains x = new HeavyChains();
    private final Model model = new Model();
    private int calls = 0;

    private ModelTest(long seed) {
        random = new Random(seed);
    }

    public static void main(String[] args) {
        for (int seed = 1; seed <= 400 && check.wrong() == 0; seed++) {
            new ModelTest(seed).run("run " + seed);
        }
        check.end();
    }

    private void run(String name) {
        if (random.nextInt(8) > 0) {
            tell(name, text());
        }
        while (calls < 500 && check.wrong() == 0) {
            if (random.nextInt(150) == 0) {
                tell(name, random.nextInt(3) == 0 ? spoilt(text()) : text());
            }
            int call = random.nextInt(CALLS);
            compare(name, call, arguments(call));
        }
    }

    private void tell(String name, String text) {
        if (text.length() + calls > 480) {
            return;
        }
        compare(name, 1, new int[4]);
        for (char letter : text.toCharArray()) {
            compare(name, 0, new int[] {letter, 0, 0, 0});
        }
        compare(name, 2, new int[4]);
        compare(name, 3, new int[4]);
    }

    private String text() {
        StringBuilder text = new StringBuilder("p");
        int posts = 1 + random.nextInt(30);
        int reach = 1 + random.nextInt(random.nextBoolean() ? 3 : 30);
        for (int i = 1; i < posts; i++) {
            text.append(Character.forDigit(i - 1 - random.nextInt(Math.min(i, reach)), 36));
        }
        text.append(';');
        for (int items = random.nextInt(4); items > 0; items--) {
            text.append("wfg".charAt(random.nextInt(3)));
            for (int signs = random.nextInt(posts + 1); signs > 0; signs--) {
                text.append((char) ('0' + random.nextInt(10)));
            }
            text.append(';');
        }
        return text.toString();
    }

    private String spoilt(String text) {
        StringBuilder spoilt = new StringBuilder(text);
        spoilt.setCharAt(random.nextInt(text.length()), "pwfg;0as t".charAt(random.nextInt(10)));
        return spoilt.toString();
    }

    /** Mostly numbers near what a call takes, now and then one far off. */
    private int[] arguments(int call) {
        int[] a = new int[4];
        for (int k = 0; k < 4; k++) {
            a[k] = random.nextInt(60) == 0 ? FAR[random.nextInt(FAR.length)] : random.nextInt(model.count(0));
        }
        boolean far = random.nextInt(40) == 0;
        switch (call) {
            case 0: a[0] = far ? a[0] : 32 + random.nextInt(95); break;
            case 5: case 12: a[call == 5 ? 1 : 2] = random.nextInt(far ? 12 : 9); break;
            case 7: a[2] = far ? a[2] : amount(999); a[3] = far ? a[3] : random.nextInt(4); break;
            case 8: a[1] = far ? a[1] : amount(999); a[2] = far ? a[2] : random.nextInt(4); break;
            case 9: a[1] = far ? a[1] : amount(9999); break;
            case 10: a[1] = far ? a[1] : random.nextInt(10); a[2] = far ? a[2] : random.nextInt(10); break;
            case 13: a[2] = random.nextInt(12); break;
            case 14: a[2] = far ? a[2] : random.nextInt(97); break;
            case 15: a[1] = random.nextInt(3); break;
            case 16: a[2] = far ? a[2] : random.nextInt(2); break;
            case 20: a[2] = far ? a[2] : amount(9999); break;
            case 22: a[0] = far ? a[0] : random.nextInt(14) - 1; break;
            case 23: case 24: a[0] = far ? a[0] : random.nextInt(3); break;
            case 25: a[0] = random.nextInt(10000); a[1] = far ? a[1] : 1 + random.nextInt(20);
                a[2] = random.nextInt(far ? 3 : 2); break;
            case 28: a[0] = far ? a[0] : random.nextInt(9); break;
            default: break;
        }
        return a;
    }

    private int amount(int most) {
        int bound = random.nextInt(3) == 0 ? most : 40;
        return random.nextInt(2 * bound + 1) - bound;
    }

    private void compare(String name, int call, int[] a) {
        // a run lays seldom: the text is full of drawn letters
        if (call == 3 && a[0] != 0 && random.nextInt(4) > 0) {
            return;
        }
        calls++;
        check.due(name + ", call " + calls + ": " + call + Arrays.toString(a), ask(call, a), due(call, a));
    }

    private int ask(int call, int[] a) {
        switch (call) {
            case 0: return x.write(a[0]);
            case 1: return x.wipe();
            case 2: return x.fault();
            case 3: return x.lay();
            case 4: return x.at(a[0]);
            case 5: return x.post(a[0], a[1]);
            case 6: return x.undo();
            case 7: return x.add(a[0], a[1], a[2], a[3]);
            case 8: return x.pour(a[0], a[1], a[2]);
            case 9: return x.set(a[0], a[1]);
            case 10: return x.shape(a[0], a[1], a[2]);
            case 11: return x.turn(a[0]);
            case 12: return x.way(a[0], a[1], a[2]);
            case 13: return x.step(a[0], a[1], a[2]);
            case 14: return x.through(a[0], a[1], a[2]);
            case 15: return x.below(a[0], a[1]);
            case 16: return x.mark(a[0], a[1], a[2]);
            case 17: return x.marked(a[0]);
            case 18: return x.nearest(a[0]);
            case 19: return x.settle();
            case 20: return x.watch(a[0], a[1], a[2]);
            case 21: return x.keep();
            case 22: return x.waits(a[0]);
            case 23: return x.richest(a[0]);
            case 24: return x.longest(a[0]);
            case 25: return x.day(a[0], a[1], a[2]);
            case 26: return x.back();
            default: return x.count(a[0]);
        }
    }

    private int due(int call, int[] a) {
        switch (call) {
            case 0: return model.write(a[0]);
            case 1: return model.wipe();
            case 2: return model.fault();
            case 3: return model.lay();
            case 4: return model.at(a[0]);
            case 5: return model.post(a[0], a[1]);
            case 6: return model.undo();
            case 7: return model.add(a[0], a[1], a[2], a[3]);
            case 8: return model.pour(a[0], a[1], a[2]);
            case 9: return model.set(a[0], a[1]);
            case 10: return model.shape(a[0], a[1], a[2]);
            case 11: return model.turn(a[0]);
            case 12: return model.way(a[0], a[1], a[2]);
            case 13: return model.step(a[0], a[1], a[2]);
            case 14: return model.through(a[0], a[1], a[2]);
            case 15: return model.below(a[0], a[1]);
            case 16: return model.mark(a[0], a[1], a[2]);
            case 17: return model.marked(a[0]);
            case 18: return model.nearest(a[0]);
            case 19: return model.settle();
            case 20: return model.watch(a[0], a[1], a[2]);
            case 21: return model.keep();
            case 22: return model.waits(a[0]);
            case 23: return model.richest(a[0]);
            case 24: return model.longest(a[0]);
            case 25: return model.day(a[0], a[1], a[2]);
            case 26: return model.back();
            default: return model.count(a[0]);
        }
    }
}

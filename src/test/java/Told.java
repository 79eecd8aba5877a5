import java.util.ArrayList;
import java.util.List;

/**
 * All that an object of few posts can tell: what it answers now, and then what shows only as it is used up (acts
 * undone, kept ones, watches that go, THE TEXT laid). Two objects that tell the same have the same state.
 */
final class Told {
    private static final int PROMISED_CALLS = 512;
    private static final int CALLS_AHEAD = 60;

    private final HeavyChains x;
    private final int posts;
    private final int letters;
    private final List<Integer> answers = new ArrayList<>();

    private Told(HeavyChains x) {
        this.x = x;
        posts = x.count(0);
        letters = x.count(7);
    }

    /** The object is used up behind it. */
    static List<Integer> allOf(HeavyChains x) {
        Told told = new Told(x);
        told.tree();
        told.marksAndWatches();
        told.allWays();
        told.past();
        told.kept();
        told.watchesThatGo();
        told.text();
        return told.answers;
    }

    private void hear(int answer) {
        answers.add(answer);
        if (answers.size() + letters + CALLS_AHEAD > PROMISED_CALLS) {
            throw new IllegalStateException("nothing is promised behind the 512th call");
        }
    }

    private void tree() {
        for (int what = 0; what <= 8; what++) {
            hear(x.count(what));
        }
        for (int i = 0; i < posts; i++) {
            for (int what = 0; what <= 5; what++) {
                hear(x.post(i, what));
            }
            hear(x.at(i));
        }
        figures();
    }

    private void figures() {
        for (int i = 0; i < posts; i++) {
            hear(x.post(i, 6));
            hear(x.post(i, 7));
            hear(x.post(i, 8));
        }
    }

    private void marksAndWatches() {
        for (int i = 0; i < posts; i++) {
            hear(x.marked(i));
            hear(x.nearest(i));
        }
        waiting();
    }

    private void waiting() {
        for (int k = -1; k < 12; k++) {
            hear(x.waits(k));
        }
    }

    private void allWays() {
        for (int what = 0; what <= 2; what++) {
            hear(x.richest(what));
            hear(x.longest(what));
        }
        hear(x.day(5, 5, 0));
    }

    private void past() {
        int left = 0;
        for (int k = 0; k < 9 && left >= 0; k++) {
            left = x.undo();
            hear(left);
            figures();
        }
    }

    private void kept() {
        int left = 0;
        for (int k = 0; k < 3 && left >= 0; k++) {
            left = x.back();
            hear(left);
            figures();
        }
    }

    private void watchesThatGo() {
        hear(x.settle());
        waiting();
        hear(x.pour(0, 50, 0));
        hear(x.settle());
        waiting();
        hear(x.watch(0, 0, 9999));
    }

    private void text() {
        hear(x.fault());
        hear(x.lay());
        hear(x.count(4));
        figures();
        hear(x.write(';'));
        hear(x.wipe());
        hear(x.lay());
    }
}

import java.math.BigInteger;
import java.util.ArrayDeque;
import java.util.ArrayList;
import java.util.Collections;
import java.util.Deque;
import java.util.LinkedHashMap;
import java.util.List;
import java.util.Map;
import java.util.Set;
import java.util.TreeSet;
import java.util.regex.Matcher;
import java.util.regex.Pattern;

/** The document told once more, in its plainest form and with the Java library, to compare long runs with. */
final class Model {
    private static final int BAD = -1, NO = -2, FULL = -3, NONE = -4, EVEN = 1000000;
    private static final Pattern ITEM = Pattern.compile("([pwfg])([0-9a-s]*);");
    private static final String SIGNS = "0123456789abcdefghijklmnopqrs";

    private String text = "";
    private List<Integer> uppers;
    private List<List<Integer>> accounts;
    private final Deque<List<List<Integer>>> past = new ArrayDeque<>();
    private final Deque<List<List<Integer>>> kept = new ArrayDeque<>();
    private final Set<Integer> marks = new TreeSet<>();
    private final Map<Integer, int[]> watches = new LinkedHashMap<>();
    private int watchesSoFar;

    private List<Integer> readUppers;
    private List<List<Integer>> readAccounts;

    Model() {
        text = "p0011223344556;w5082719364028;f1213141512131;g3021045670123;";
        lay();
        text = "";
    }

    private static List<List<Integer>> copy(List<List<Integer>> rows) {
        List<List<Integer>> copy = new ArrayList<>();
        for (List<Integer> row : rows) {
            copy.add(new ArrayList<>(row));
        }
        return copy;
    }

    private static boolean in(int x, int least, int most) {
        return x >= least && x <= most;
    }

    private boolean posts(int... which) {
        for (int i : which) {
            if (!in(i, 0, uppers.size() - 1)) {
                return false;
            }
        }
        return true;
    }

    int write(int letter) {
        if (!in(letter, 32, 126)) {
            return BAD;
        }
        if (text.length() == 200) {
            return FULL;
        }
        text += (char) letter;
        return text.length();
    }

    int wipe() {
        int was = text.length();
        text = "";
        return was;
    }

    int fault() {
        readUppers = null;
        readAccounts = null;
        Matcher matcher = ITEM.matcher(text);
        int start = 0;
        while (start < text.length()) {
            matcher.region(start, text.length());
            if (!matcher.lookingAt() || !take(matcher.group(1), matcher.group(2))) {
                return start;
            }
            start = matcher.end();
        }
        return NONE;
    }

    private boolean take(String letter, String signs) {
        List<Integer> told = new ArrayList<>();
        for (char sign : signs.toCharArray()) {
            told.add(SIGNS.indexOf(sign));
        }
        if (letter.equals("p")) {
            if (readUppers != null || told.size() > 29) {
                return false;
            }
            told.add(0, NONE);
            for (int i = 0; i < told.size(); i++) {
                if (told.get(i) >= i) {
                    return false;
                }
            }
            readUppers = told;
            readAccounts = new ArrayList<>();
            for (int without : new int[] {0, 1, 0}) {
                readAccounts.add(new ArrayList<>(Collections.nCopies(told.size(), without)));
            }
            return true;
        }
        if (readUppers == null || told.size() > readUppers.size() || told.stream().anyMatch(t -> t > 9)) {
            return false;
        }
        int which = "wfg".indexOf(letter);
        while (told.size() < readUppers.size()) {
            told.add(which == 1 ? 1 : 0);
        }
        readAccounts.set(which, told);
        return true;
    }

    int lay() {
        if (fault() != NONE || readUppers == null) {
            return NO;
        }
        uppers = readUppers;
        accounts = copy(readAccounts);
        past.clear();
        kept.clear();
        marks.clear();
        watches.clear();
        watchesSoFar = 0;
        return uppers.size();
    }

    private List<Integer> lowerOnes(int i) {
        List<Integer> lower = new ArrayList<>();
        for (int j = 0; j < uppers.size(); j++) {
            if (uppers.get(j) == i) {
                lower.add(j);
            }
        }
        return lower;
    }

    private int heavy(int i) {
        int heavy = NONE;
        for (int j : lowerOnes(i)) {
            if (heavy == NONE || family(j).size() > family(heavy).size()) {
                heavy = j;
            }
        }
        return heavy;
    }

    /** A post and all below, in the order of the row. */
    private List<Integer> family(int i) {
        List<Integer> family = new ArrayList<>(List.of(i));
        List<Integer> lower = lowerOnes(i);
        int most = -1;
        List<Integer> first = null;
        List<List<Integer>> parts = new ArrayList<>();
        for (int j : lower) {
            List<Integer> part = family(j);
            parts.add(part);
            if (part.size() > most) {
                most = part.size();
                first = part;
            }
        }
        if (first != null) {
            family.addAll(first);
        }
        for (List<Integer> part : parts) {
            if (part != first) {
                family.addAll(part);
            }
        }
        return family;
    }

    private int head(int i) {
        return i == 0 || heavy(uppers.get(i)) != i ? i : head(uppers.get(i));
    }

    private List<Integer> upward(int i) {
        List<Integer> upward = new ArrayList<>();
        for (int p = i; p >= 0; p = uppers.get(p)) {
            upward.add(p);
        }
        return upward;
    }

    int post(int i, int what) {
        if (!posts(i) || !in(what, 0, 8)) {
            return BAD;
        }
        int[] all = {uppers.get(i), heavy(i), family(i).size(), family(0).indexOf(i), head(i), upward(i).size() - 1,
            amount(i) + EVEN, accounts.get(1).get(i), accounts.get(2).get(i)};
        return all[what];
    }

    int at(int place) {
        return posts(place) ? family(0).get(place) : BAD;
    }

    private int amount(int i) {
        return accounts.get(0).get(i);
    }

    private int meet(int u, int v) {
        List<Integer> above = upward(v);
        for (int p : upward(u)) {
            if (above.contains(p)) {
                return p;
            }
        }
        return 0;
    }

    private List<Integer> wayOf(int u, int v) {
        int meet = meet(u, v);
        List<Integer> up = upward(u);
        List<Integer> way = new ArrayList<>(up.subList(0, up.indexOf(meet) + 1));
        List<Integer> down = upward(v);
        down = new ArrayList<>(down.subList(0, down.indexOf(meet)));
        Collections.reverse(down);
        way.addAll(down);
        return way;
    }

    private int sum(List<Integer> which) {
        return which.stream().mapToInt(this::amount).sum();
    }

    private int max(List<Integer> which) {
        return which.stream().mapToInt(this::amount).max().getAsInt();
    }

    private static int added(int amount, int x, int kind) {
        if (kind == 1) {
            return added(amount, 2 * x, 0);
        }
        if (kind == 3) {
            return added(amount, x < 0 ? -(-x / 2) : x / 2, 2);
        }
        return kind == 2 && amount + x < 0 ? 0 : amount + x;
    }

    private boolean tryAdd(List<Integer> which, int x, int kind) {
        List<Integer> after = new ArrayList<>(accounts.get(0));
        for (int i : which) {
            after.set(i, added(amount(i), x, kind));
            if (Math.abs(after.get(i)) > 9999) {
                return false;
            }
        }
        accounts.set(0, after);
        return true;
    }

    private void remember(List<List<Integer>> was) {
        past.addLast(was);
        if (past.size() > 8) {
            past.removeFirst();
        }
    }

    private int addTo(List<Integer> which, int x, int kind) {
        List<List<Integer>> was = copy(accounts);
        if (!tryAdd(which, x, kind)) {
            return NO;
        }
        remember(was);
        return sum(which) + EVEN;
    }

    int add(int u, int v, int x, int kind) {
        return posts(u, v) && in(x, -999, 999) && in(kind, 0, 3) ? addTo(wayOf(u, v), x, kind) : BAD;
    }

    int pour(int u, int x, int kind) {
        return posts(u) && in(x, -999, 999) && in(kind, 0, 3) ? addTo(family(u), x, kind) : BAD;
    }

    int set(int i, int amount) {
        if (!posts(i) || !in(amount, -9999, 9999)) {
            return BAD;
        }
        if (amount(i) == amount) {
            return NO;
        }
        remember(copy(accounts));
        return accounts.get(0).set(i, amount) + EVEN;
    }

    int shape(int i, int factor, int shift) {
        if (!posts(i) || !in(factor, 0, 9) || !in(shift, 0, 9)) {
            return BAD;
        }
        if (accounts.get(1).get(i) == factor && accounts.get(2).get(i) == shift) {
            return NO;
        }
        remember(copy(accounts));
        return 10 * accounts.get(1).set(i, factor) + accounts.get(2).set(i, shift);
    }

    int undo() {
        if (past.isEmpty()) {
            return NO;
        }
        accounts = past.removeLast();
        return past.size();
    }

    int way(int u, int v, int what) {
        if (!posts(u, v) || !in(what, 0, 7)) {
            return BAD;
        }
        List<Integer> way = wayOf(u, v);
        switch (what) {
            case 0: return way.size();
            case 1: return (int) way.stream().map(this::head).distinct().count();
            case 2: return meet(u, v);
            case 3: return sum(way) + EVEN;
            case 4: return max(way) + EVEN;
            case 5: return way.stream().mapToInt(this::amount).min().getAsInt() + EVEN;
            case 6: return gain(way);
            default: return (int) way.stream().filter(marks::contains).count();
        }
    }

    private int gain(List<Integer> way) {
        int gain = 0;
        for (int i = 0; i < way.size(); i++) {
            for (int j = i; j < way.size(); j++) {
                gain = Math.max(gain, amount(way.get(j)) - amount(way.get(i)));
            }
        }
        return gain;
    }

    int step(int u, int v, int k) {
        if (!posts(u, v) || k < 0) {
            return BAD;
        }
        List<Integer> way = wayOf(u, v);
        return k < way.size() ? way.get(k) : NONE;
    }

    int through(int u, int v, int x) {
        if (!posts(u, v) || !in(x, 0, 96)) {
            return BAD;
        }
        int now = x;
        for (int i : wayOf(u, v)) {
            now = (accounts.get(1).get(i) * now + accounts.get(2).get(i)) % 97;
        }
        return now;
    }

    int below(int u, int what) {
        if (!posts(u) || !in(what, 0, 2)) {
            return BAD;
        }
        List<Integer> family = family(u);
        return what == 0 ? sum(family) + EVEN : what == 1 ? max(family) + EVEN
                : (int) family.stream().filter(marks::contains).count();
    }

    int mark(int u, int v, int how) {
        if (!posts(u, v) || !in(how, 0, 1)) {
            return BAD;
        }
        int before = marks.size();
        if (how == 1) {
            marks.addAll(wayOf(u, v));
        } else {
            marks.removeAll(wayOf(u, v));
        }
        return Math.abs(marks.size() - before);
    }

    int turn(int u) {
        if (!posts(u)) {
            return BAD;
        }
        for (int i : family(u)) {
            if (!marks.remove(i)) {
                marks.add(i);
            }
        }
        return marks.size();
    }

    int marked(int place) {
        if (!posts(place)) {
            return BAD;
        }
        List<Integer> row = family(0);
        return marks.stream().mapToInt(row::indexOf).filter(p -> p >= place).min().orElse(NONE);
    }

    int nearest(int u) {
        if (!posts(u)) {
            return BAD;
        }
        // 100 stands above all numbers of posts, so the fewest posts come first
        int best = marks.stream().mapToInt(i -> wayOf(u, i).size() * 100 + i).min().orElse(NONE);
        return best == NONE ? NONE : best % 100;
    }

    int watch(int u, int v, int much) {
        if (!posts(u, v) || !in(much, -9999, 9999)) {
            return BAD;
        }
        if (watches.size() == 12) {
            return FULL;
        }
        watches.put(watchesSoFar, new int[] {u, v, much});
        return watchesSoFar++;
    }

    int settle() {
        int before = watches.size();
        watches.values().removeIf(w -> sum(wayOf(w[0], w[1])) >= w[2]);
        return before - watches.size();
    }

    int waits(int k) {
        if (k < -1) {
            return BAD;
        }
        List<Integer> numbers = new ArrayList<>(watches.keySet());
        return k == -1 ? numbers.size() : k < numbers.size() ? numbers.get(k) : NONE;
    }

    private int[] best(boolean bySum) {
        int[] best = null;
        for (int u = 0; u < uppers.size(); u++) {
            for (int v = u; v < uppers.size(); v++) {
                int worth = bySum ? sum(wayOf(u, v)) : wayOf(u, v).size();
                if (best == null || worth > best[2]) {
                    best = new int[] {u, v, worth};
                }
            }
        }
        return best;
    }

    int richest(int what) {
        return in(what, 0, 2) ? best(true)[what] + (what == 2 ? EVEN : 0) : BAD;
    }

    int longest(int what) {
        return in(what, 0, 2) ? best(false)[what] : BAD;
    }

    int day(int z, int n, int what) {
        if (!in(z, 0, 9999) || !in(n, 1, 20) || !in(what, 0, 1)) {
            return BAD;
        }
        List<List<Integer>> was = copy(accounts);
        for (int k = 0; k < n; k++) {
            BigInteger x = BigInteger.valueOf(7919L * z + 6151L * k + 1);
            int draw = x.pow(2).mod(BigInteger.valueOf(65521)).intValueExact();
            List<Integer> way = wayOf((draw / 4) % uppers.size(), (draw / 256) % uppers.size());
            tryAdd(way, (draw / 64) % 41 - 20, draw % 4);
        }
        int answer = (what == 0 ? sum(family(0)) : max(family(0))) + EVEN;
        accounts = was;
        return answer;
    }

    int keep() {
        if (kept.size() == 2) {
            return FULL;
        }
        kept.addLast(copy(accounts));
        return kept.size();
    }

    int back() {
        if (kept.isEmpty()) {
            return NO;
        }
        accounts = kept.removeLast();
        past.clear();
        return kept.size();
    }

    int count(int what) {
        switch (what) {
            case 0: return uppers.size();
            case 1: return (int) family(0).stream().map(this::head).distinct().count();
            case 2: return marks.size();
            case 3: return watches.size();
            case 4: return watchesSoFar;
            case 5: return past.size();
            case 6: return kept.size();
            case 7: return text.length();
            case 8: return sum(family(0)) + EVEN;
            default: return BAD;
        }
    }
}

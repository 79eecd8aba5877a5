/** Accounts of a fixed hierarchy, laid on one row by heavy chains; ../shared/DOC.md says what each call answers. */
public final class HeavyChains {
    public static final int BAD = -1, NO = -2, FULL = -3, NONE = -4, EVEN = 1000000;

    private static final int MOST_POSTS = 30;
    private static final int MOST_LETTERS = 200;
    private static final int MOST_UNDONE = 8;
    private static final int MOST_KEPT = 2;
    private static final int MOST_WATCHES = 12;
    private static final int MOST_AMOUNT = 9999;
    private static final int MOST_ADDED = 999;
    private static final int MODULUS = 97;
    private static final String FIRST_TEXT =
            "p0011223344556;w5082719364028;f1213141512131;g3021045670123;";

    private final Letters text = new Letters();
    private final Reader reader = new Reader();
    private final Tree tree = new Tree();
    private final Accounts accounts = new Accounts();
    private final Accounts trial = new Accounts();
    private final Shelf past = new Shelf(MOST_UNDONE);
    private final Shelf kept = new Shelf(MOST_KEPT);
    private final Route route = new Route();
    private final Survey survey = new Survey();
    private final Marks marks = new Marks();
    private final Watches watches = new Watches();

    public HeavyChains() {
        for (int k = 0; k < FIRST_TEXT.length(); k++) {
            text.append(FIRST_TEXT.charAt(k));
        }
        takeText();
        text.length = 0;
    }

    // ---- accounts

    public int write(int letter) {
        if (!within(letter, 32, 126)) {
            return BAD;
        }
        return text.append((char) letter) ? text.length : FULL;
    }

    public int wipe() {
        int was = text.length;
        text.length = 0;
        return was;
    }

    public int fault() {
        return reader.read(text);
    }

    public int lay() {
        return takeText() ? tree.posts : NO;
    }

    public int post(int i, int what) {
        if (!isPost(i)) {
            return BAD;
        }
        switch (what) {
            case 0: return tree.upper[i];
            case 1: return tree.heavy[i];
            case 2: return tree.size[i];
            case 3: return tree.place[i];
            case 4: return tree.head[i];
            case 5: return tree.depth[i];
            case 6: return accounts.amount[i] + EVEN;
            case 7: return accounts.factor[i];
            case 8: return accounts.shift[i];
            default: return BAD;
        }
    }

    public int at(int place) {
        return isPost(place) ? tree.row[place] : BAD;
    }

    // ---- acts

    public int add(int u, int v, int x, int kind) {
        if (!isPost(u) || !isPost(v) || !isAddition(x, kind)) {
            return BAD;
        }
        route.lead(tree, u, v);
        return addToRoute(x, kind);
    }

    public int pour(int u, int x, int kind) {
        if (!isPost(u) || !isAddition(x, kind)) {
            return BAD;
        }
        route.cover(tree, u);
        return addToRoute(x, kind);
    }

    public int set(int i, int amount) {
        if (!isPost(i) || !within(amount, -MOST_AMOUNT, MOST_AMOUNT)) {
            return BAD;
        }
        int was = accounts.amount[i];
        if (was == amount) {
            return NO;
        }
        past.push(accounts);
        accounts.amount[i] = amount;
        return was + EVEN;
    }

    public int shape(int i, int factor, int shift) {
        if (!isPost(i) || !within(factor, 0, 9) || !within(shift, 0, 9)) {
            return BAD;
        }
        int wasFactor = accounts.factor[i];
        int wasShift = accounts.shift[i];
        if (wasFactor == factor && wasShift == shift) {
            return NO;
        }
        past.push(accounts);
        accounts.factor[i] = factor;
        accounts.shift[i] = shift;
        return 10 * wasFactor + wasShift;
    }

    public int undo() {
        return past.pop(accounts) ? past.held : NO;
    }

    // ---- ways

    public int way(int u, int v, int what) {
        if (!isPost(u) || !isPost(v)) {
            return BAD;
        }
        route.lead(tree, u, v);
        switch (what) {
            case 0: return route.length;
            case 1: return route.pieces(tree);
            case 2: return route.meet;
            case 3: return route.sum(accounts.amount) + EVEN;
            case 4: return route.greatest(accounts.amount) + EVEN;
            case 5: return route.least(accounts.amount) + EVEN;
            case 6: return route.gain(accounts.amount);
            case 7: return marks.on(route);
            default: return BAD;
        }
    }

    public int step(int u, int v, int k) {
        if (!isPost(u) || !isPost(v) || k < 0) {
            return BAD;
        }
        route.lead(tree, u, v);
        return k < route.length ? route.stops[k] : NONE;
    }

    public int through(int u, int v, int x) {
        if (!isPost(u) || !isPost(v) || !within(x, 0, MODULUS - 1)) {
            return BAD;
        }
        route.lead(tree, u, v);
        return route.carry(accounts, x);
    }

    public int below(int u, int what) {
        if (!isPost(u)) {
            return BAD;
        }
        route.cover(tree, u);
        switch (what) {
            case 0: return route.sum(accounts.amount) + EVEN;
            case 1: return route.greatest(accounts.amount) + EVEN;
            case 2: return marks.on(route);
            default: return BAD;
        }
    }

    // ---- marks, watches

    public int mark(int u, int v, int how) {
        if (!isPost(u) || !isPost(v) || !within(how, 0, 1)) {
            return BAD;
        }
        route.lead(tree, u, v);
        return marks.put(route, how == 1);
    }

    public int turn(int u) {
        if (!isPost(u)) {
            return BAD;
        }
        route.cover(tree, u);
        marks.flip(route);
        return marks.all();
    }

    public int marked(int place) {
        return isPost(place) ? marks.firstFrom(tree, place) : BAD;
    }

    public int nearest(int u) {
        if (!isPost(u)) {
            return BAD;
        }
        survey.measure(tree, u, survey.ones);
        return marks.closest(tree.posts, survey.reach);
    }

    public int watch(int u, int v, int much) {
        if (!isPost(u) || !isPost(v) || !within(much, -MOST_AMOUNT, MOST_AMOUNT)) {
            return BAD;
        }
        return watches.open(u, v, much);
    }

    public int settle() {
        return watches.release(tree, route, accounts.amount);
    }

    public int waits(int k) {
        if (k < -1) {
            return BAD;
        }
        if (k == -1) {
            return watches.waiting;
        }
        return k < watches.waiting ? watches.number[k] : NONE;
    }

    // ---- all ways

    public int richest(int what) {
        if (!within(what, 0, 2)) {
            return BAD;
        }
        survey.search(tree, accounts.amount);
        return what == 2 ? survey.worth + EVEN : survey.end(what);
    }

    public int longest(int what) {
        if (!within(what, 0, 2)) {
            return BAD;
        }
        survey.search(tree, survey.ones);
        return what == 2 ? survey.worth : survey.end(what);
    }

    public int day(int z, int n, int what) {
        if (!within(z, 0, 9999) || !within(n, 1, 20) || !within(what, 0, 1)) {
            return BAD;
        }
        // a day is asked, not lived: it runs on accounts of its own
        trial.copy(accounts);
        for (int k = 0; k < n; k++) {
            tryDraw(draw(z, k));
        }
        route.cover(tree, 0);
        return (what == 0 ? route.sum(trial.amount) : route.greatest(trial.amount)) + EVEN;
    }

    // ---- kept

    public int keep() {
        if (kept.held >= MOST_KEPT) {
            return FULL;
        }
        kept.push(accounts);
        return kept.held;
    }

    public int back() {
        if (!kept.pop(accounts)) {
            return NO;
        }
        past.held = 0;
        return kept.held;
    }

    public int count(int what) {
        switch (what) {
            case 0: return tree.posts;
            case 1: return tree.chains;
            case 2: return marks.all();
            case 3: return watches.waiting;
            case 4: return watches.soFar;
            case 5: return past.held;
            case 6: return kept.held;
            case 7: return text.length;
            case 8: return accounts.total(tree.posts) + EVEN;
            default: return BAD;
        }
    }

    // ---- behind the face

    private static boolean within(int number, int least, int most) {
        return number >= least && number <= most;
    }

    private static boolean isAddition(int x, int kind) {
        return within(x, -MOST_ADDED, MOST_ADDED) && within(kind, 0, 3);
    }

    /** Places are told by the same numbers as posts, so this tests them too. */
    private boolean isPost(int i) {
        return i >= 0 && i < tree.posts;
    }

    private boolean takeText() {
        if (reader.read(text) != NONE || reader.posts == 0) {
            return false;
        }
        tree.build(reader.posts, reader.upper);
        accounts.copy(reader.told);
        past.held = 0;
        kept.held = 0;
        marks.clear();
        watches.clear();
        return true;
    }

    private int addToRoute(int x, int kind) {
        if (!route.canTake(accounts.amount, x, kind)) {
            return NO;
        }
        past.push(accounts);
        route.take(accounts.amount, x, kind);
        return route.sum(accounts.amount) + EVEN;
    }

    /** The square of x goes beyond an int. */
    private static int draw(int z, int k) {
        long x = 7919L * z + 6151L * k + 1;
        return (int) (x * x % 65521);
    }

    private void tryDraw(int draw) {
        // the tree has a post at all times; the test keeps the divisor from 0
        int posts = Math.max(1, tree.posts);
        int x = draw / 64 % 41 - 20;
        int kind = draw % 4;
        route.lead(tree, draw / 4 % posts, draw / 256 % posts);
        if (route.canTake(trial.amount, x, kind)) {
            route.take(trial.amount, x, kind);
        }
    }

    /** THE TEXT. */
    private static final class Letters {
        final char[] letters = new char[MOST_LETTERS];
        int length;

        boolean append(char letter) {
            if (length >= MOST_LETTERS) {
                return false;
            }
            letters[length] = letter;
            length++;
            return true;
        }
    }

    /** What a text tells; of use only if the last read found no fault. */
    private static final class Reader {
        int posts;
        final int[] upper = new int[MOST_POSTS];
        final Accounts told = new Accounts();

        /** The place of the first fault, or NONE. */
        int read(Letters text) {
            posts = 0;
            int start = 0;
            for (int items = 0; items < MOST_LETTERS && start < text.length; items++) {
                int end = endOfSigns(text, start + 1);
                if (end >= text.length || text.letters[end] != ';' || !takeItem(text, start, end)) {
                    return start;
                }
                start = end + 1;
            }
            return NONE;
        }

        private static int endOfSigns(Letters text, int from) {
            int end = from;
            while (end < text.length && valueOf(text.letters[end]) >= 0) {
                end++;
            }
            return end;
        }

        private static int valueOf(char sign) {
            if (sign >= '0' && sign <= '9') {
                return sign - '0';
            }
            return sign >= 'a' && sign <= 's' ? sign - 'a' + 10 : -1;
        }

        /** False if the item from its letter at start to its ; at end is not as it must be. */
        private boolean takeItem(Letters text, int start, int end) {
            switch (text.letters[start]) {
                case 'p': return takeUppers(text, start + 1, end);
                case 'w': return takeFigures(told.amount, 0, text, start + 1, end);
                case 'f': return takeFigures(told.factor, 1, text, start + 1, end);
                case 'g': return takeFigures(told.shift, 0, text, start + 1, end);
                default: return false;
            }
        }

        private boolean takeUppers(Letters text, int from, int end) {
            int signs = end - from;
            if (posts > 0 || signs >= MOST_POSTS) {
                return false;
            }
            upper[0] = NONE;
            for (int i = 1; i <= signs; i++) {
                upper[i] = valueOf(text.letters[from + i - 1]);
                if (upper[i] >= i) {
                    return false;
                }
            }
            posts = signs + 1;
            told.clear();
            return true;
        }

        /** Without a p ahead there are no posts, so nothing but a p can come first. */
        private boolean takeFigures(int[] row, int without, Letters text, int from, int end) {
            int signs = end - from;
            if (posts == 0 || signs > posts) {
                return false;
            }
            for (int i = 0; i < posts; i++) {
                row[i] = i < signs ? valueOf(text.letters[from + i]) : without;
                if (row[i] > 9) {
                    return false;
                }
            }
            return true;
        }
    }

    /** Who is above whom, and where each lies on THE ROW. An upper one has a lower number, so one pass goes downward. */
    private static final class Tree {
        int posts;
        int chains;
        final int[] upper = new int[MOST_POSTS];
        final int[] heavy = new int[MOST_POSTS];
        final int[] size = new int[MOST_POSTS];
        final int[] place = new int[MOST_POSTS];
        final int[] row = new int[MOST_POSTS];
        final int[] head = new int[MOST_POSTS];
        final int[] depth = new int[MOST_POSTS];
        private final int[] free = new int[MOST_POSTS];

        void build(int count, int[] uppers) {
            posts = Math.min(count, MOST_POSTS);
            for (int i = 0; i < posts; i++) {
                upper[i] = uppers[i];
                size[i] = 1;
                heavy[i] = NONE;
            }
            for (int i = posts - 1; i > 0; i--) {
                size[upper[i]] += size[i];
            }
            for (int i = 1; i < posts; i++) {
                chooseHeavy(upper[i], i);
            }
            chains = 1;
            depth[0] = 0;
            head[0] = 0;
            putAt(0, 0);
            for (int i = 1; i < posts; i++) {
                placeLower(i);
            }
        }

        private void chooseHeavy(int i, int lower) {
            if (heavy[i] == NONE || size[lower] > size[heavy[i]]) {
                heavy[i] = lower;
            }
        }

        /** The upper post lies already. */
        private void placeLower(int i) {
            int over = upper[i];
            depth[i] = depth[over] + 1;
            if (heavy[over] == i) {
                head[i] = head[over];
                putAt(i, place[over] + 1);
            } else {
                head[i] = i;
                chains++;
                putAt(i, free[over]);
                free[over] += size[i];
            }
        }

        /** Room for the heavy one stays right behind; free is where the next of the others begins. */
        private void putAt(int i, int where) {
            place[i] = where;
            row[where] = i;
            free[i] = where + 1 + (heavy[i] == NONE ? 0 : size[heavy[i]]);
        }

        /** Of two different posts the higher number is not above the other, so it is the one to go up. */
        int meeting(int u, int v) {
            int a = u;
            int b = v;
            for (int k = 0; k < 2 * MOST_POSTS && a != b; k++) {
                if (a > b) {
                    a = upper[a];
                } else {
                    b = upper[b];
                }
            }
            return a;
        }
    }

    /** What all posts have. */
    private static final class Accounts {
        final int[] amount = new int[MOST_POSTS];
        final int[] factor = new int[MOST_POSTS];
        final int[] shift = new int[MOST_POSTS];

        void clear() {
            for (int i = 0; i < MOST_POSTS; i++) {
                amount[i] = 0;
                factor[i] = 1;
                shift[i] = 0;
            }
        }

        void copy(Accounts other) {
            System.arraycopy(other.amount, 0, amount, 0, MOST_POSTS);
            System.arraycopy(other.factor, 0, factor, 0, MOST_POSTS);
            System.arraycopy(other.shift, 0, shift, 0, MOST_POSTS);
        }

        int total(int posts) {
            int total = 0;
            for (int i = 0; i < posts; i++) {
                total += amount[i];
            }
            return total;
        }
    }

    /** Accounts as they were, the last on top; where there is no room, the oldest goes. */
    private static final class Shelf {
        final Accounts[] copies;
        int held;
        private int next;

        Shelf(int room) {
            copies = new Accounts[Math.max(1, room)];
            for (int k = 0; k < copies.length; k++) {
                copies[k] = new Accounts();
            }
        }

        void push(Accounts now) {
            copies[next].copy(now);
            next = next + 1 < copies.length ? next + 1 : 0;
            held = Math.min(held + 1, copies.length);
        }

        boolean pop(Accounts now) {
            if (held <= 0) {
                return false;
            }
            next = next > 0 ? next - 1 : copies.length - 1;
            held--;
            now.copy(copies[next]);
            return true;
        }
    }

    /** Posts in order: those of a way, or a post and all below it. */
    private static final class Route {
        final int[] stops = new int[MOST_POSTS];
        int length;
        int meet;

        void lead(Tree tree, int u, int v) {
            meet = tree.meeting(u, v);
            int rise = tree.depth[u] - tree.depth[meet];
            length = rise + 1 + tree.depth[v] - tree.depth[meet];
            int up = u;
            for (int k = 0; k <= rise; k++) {
                stops[k] = up;
                up = tree.upper[up];
            }
            int down = v;
            for (int k = length - 1; k > rise; k--) {
                stops[k] = down;
                down = tree.upper[down];
            }
        }

        void cover(Tree tree, int u) {
            meet = u;
            length = tree.size[u];
            for (int k = 0; k < length; k++) {
                stops[k] = tree.row[tree.place[u] + k];
            }
        }

        int pieces(Tree tree) {
            int pieces = 1;
            for (int k = 1; k < length; k++) {
                if (tree.head[stops[k]] != tree.head[stops[k - 1]]) {
                    pieces++;
                }
            }
            return pieces;
        }

        int sum(int[] amount) {
            int sum = 0;
            for (int k = 0; k < length; k++) {
                sum += amount[stops[k]];
            }
            return sum;
        }

        int greatest(int[] amount) {
            int greatest = -MOST_AMOUNT;
            for (int k = 0; k < length; k++) {
                greatest = Math.max(greatest, amount[stops[k]]);
            }
            return greatest;
        }

        int least(int[] amount) {
            int least = MOST_AMOUNT;
            for (int k = 0; k < length; k++) {
                least = Math.min(least, amount[stops[k]]);
            }
            return least;
        }

        int gain(int[] amount) {
            int gain = 0;
            int least = MOST_AMOUNT;
            for (int k = 0; k < length; k++) {
                least = Math.min(least, amount[stops[k]]);
                gain = Math.max(gain, amount[stops[k]] - least);
            }
            return gain;
        }

        int carry(Accounts accounts, int x) {
            int carried = x;
            for (int k = 0; k < length; k++) {
                carried = (accounts.factor[stops[k]] * carried + accounts.shift[stops[k]]) % MODULUS;
            }
            return carried;
        }

        boolean canTake(int[] amount, int x, int kind) {
            for (int k = 0; k < length; k++) {
                if (!within(added(amount[stops[k]], x, kind), -MOST_AMOUNT, MOST_AMOUNT)) {
                    return false;
                }
            }
            return true;
        }

        void take(int[] amount, int x, int kind) {
            for (int k = 0; k < length; k++) {
                amount[stops[k]] = added(amount[stops[k]], x, kind);
            }
        }

        private static int added(int amount, int x, int kind) {
            switch (kind) {
                case 0: return amount + x;
                case 1: return amount + 2 * x;
                case 2: return Math.max(0, amount + x);
                default: return Math.max(0, amount + x / 2);
            }
        }
    }

    /** What ways from one post to all others come to, and the best way of all. */
    private static final class Survey {
        final int[] ones = new int[MOST_POSTS];
        final int[] reach = new int[MOST_POSTS];
        private final boolean[] known = new boolean[MOST_POSTS];
        int from;
        int to;
        int worth;

        Survey() {
            for (int i = 0; i < MOST_POSTS; i++) {
                ones[i] = 1;
            }
        }

        /** To those above u the way only rises; to any other one it comes from that one's upper post. */
        void measure(Tree tree, int u, int[] weight) {
            for (int i = 0; i < tree.posts; i++) {
                known[i] = false;
            }
            int sum = 0;
            int up = u;
            for (int k = tree.depth[u]; k >= 0; k--) {
                sum += weight[up];
                reach[up] = sum;
                known[up] = true;
                up = tree.upper[up];
            }
            for (int v = 1; v < tree.posts; v++) {
                if (!known[v]) {
                    reach[v] = reach[tree.upper[v]] + weight[v];
                }
            }
        }

        void search(Tree tree, int[] weight) {
            for (int u = 0; u < tree.posts; u++) {
                measure(tree, u, weight);
                for (int v = u; v < tree.posts; v++) {
                    if (v == 0 || reach[v] > worth) {
                        from = u;
                        to = v;
                        worth = reach[v];
                    }
                }
            }
        }

        int end(int what) {
            return what == 0 ? from : to;
        }
    }

    /** Which posts are MARKED. */
    private static final class Marks {
        final boolean[] isSet = new boolean[MOST_POSTS];

        void clear() {
            for (int i = 0; i < MOST_POSTS; i++) {
                isSet[i] = false;
            }
        }

        int all() {
            int all = 0;
            for (int i = 0; i < MOST_POSTS; i++) {
                if (isSet[i]) {
                    all++;
                }
            }
            return all;
        }

        int on(Route route) {
            int on = 0;
            for (int k = 0; k < route.length; k++) {
                if (isSet[route.stops[k]]) {
                    on++;
                }
            }
            return on;
        }

        /** How many became so that were not. */
        int put(Route route, boolean how) {
            int became = 0;
            for (int k = 0; k < route.length; k++) {
                if (isSet[route.stops[k]] != how) {
                    isSet[route.stops[k]] = how;
                    became++;
                }
            }
            return became;
        }

        void flip(Route route) {
            for (int k = 0; k < route.length; k++) {
                isSet[route.stops[k]] = !isSet[route.stops[k]];
            }
        }

        int firstFrom(Tree tree, int place) {
            for (int k = place; k < tree.posts; k++) {
                if (isSet[tree.row[k]]) {
                    return k;
                }
            }
            return NONE;
        }

        int closest(int posts, int[] reach) {
            int best = NONE;
            for (int i = 0; i < posts; i++) {
                if (isSet[i] && (best == NONE || reach[i] < reach[best])) {
                    best = i;
                }
            }
            return best;
        }
    }

    /** The watches that wait, in order. */
    private static final class Watches {
        final int[] number = new int[MOST_WATCHES];
        private final int[] from = new int[MOST_WATCHES];
        private final int[] to = new int[MOST_WATCHES];
        private final int[] much = new int[MOST_WATCHES];
        int waiting;
        int soFar;

        void clear() {
            waiting = 0;
            soFar = 0;
        }

        int open(int u, int v, int least) {
            if (waiting >= MOST_WATCHES) {
                return FULL;
            }
            number[waiting] = soFar;
            from[waiting] = u;
            to[waiting] = v;
            much[waiting] = least;
            waiting++;
            soFar++;
            return number[waiting - 1];
        }

        /** How many went; those that stay close up. */
        int release(Tree tree, Route route, int[] amount) {
            int stay = 0;
            for (int k = 0; k < waiting; k++) {
                route.lead(tree, from[k], to[k]);
                if (route.sum(amount) < much[k]) {
                    move(k, stay);
                    stay++;
                }
            }
            int went = waiting - stay;
            waiting = stay;
            return went;
        }

        private void move(int k, int target) {
            number[target] = number[k];
            from[target] = from[k];
            to[target] = to[k];
            much[target] = much[k];
        }
    }
}

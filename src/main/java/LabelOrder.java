import java.util.Arrays;
import java.util.NoSuchElementException;

/**
 * An order of at most nine points with labels on its edges, and what can be told of its chains.
 *
 * <p>A set of points is an int, point x its bit x. All rows are made with the object and used again by
 * every call, because what a run of calls makes is counted.
 */
public final class LabelOrder {
    public static final int NONE = -1;

    private static final int WRONG = -1;
    private static final int IMPOSSIBLE = -2;
    private static final int THIRD = -3;
    private static final int NO_NUMBER = Integer.MIN_VALUE;

    private static final int MOST_POINTS = 9;
    private static final int MOST_STEPS = MOST_POINTS - 1;
    private static final int SETS = 1 << MOST_POINTS;
    private static final int MOST_SIGNS = 400;
    private static final int MOST_LABEL = 99;
    private static final int LAST_RULE = 3;
    private static final int MOST_UNDONE = 16;
    private static final int KEEPS = 2;
    private static final int MOST_ZETA = 1000;

    /** Seven inner points make no more: no graph of seven points has more largest cliques (4 times 3). */
    private static final int MOST_CHAINS = 12;
    /** The most rows of one length that seven points make: 7 over 3. */
    private static final int MOST_FACES = 35;

    private static final int END_TOKEN = 0;
    private static final int POINTS_WORD = 1;
    private static final int RULE_WORD = 2;
    private static final int LABEL_WORD = 3;
    private static final int NUMBER_TOKEN = 4;
    private static final int SEMICOLON = 5;
    private static final int LESS_SIGN = 6;
    private static final int OTHER_TOKEN = 7;

    private static final int MISPLACED = 1;
    private static final int BAD_NUMBER = 2;
    private static final int BAD_LINE = 3;
    private static final int BAD_CIRCLE = 4;

    private final Reader reader = new Reader();
    private final Poset now = new Poset();
    private final Past past = new Past();
    private final Poset[] kept = new Poset[KEEPS];
    private final ChainList list = new ChainList();
    private final Sums sums = new Sums();
    private final Bounds bounds = new Bounds();
    private final Complex complex = new Complex();
    private final Matcher matcher = new Matcher();

    public LabelOrder() {
        for (int k = 0; k < KEEPS; k++) {
            kept[k] = new Poset();
        }
    }

    // ---- the tape

    public int sign(int v) {
        return reader.append(v);
    }

    public boolean end(int n) {
        return reader.cut(n);
    }

    public int order() {
        int lines = reader.readLines();
        reader.cut(0);
        if (lines != NONE) {
            now.copy(reader.draft);
            past.forget();
            for (int k = 0; k < KEEPS; k++) {
                kept[k].begin(0);
            }
        }
        return lines;
    }

    public int fault(int what) {
        switch (what) {
            case 0:
                return reader.faultCode;
            case 1:
                return reader.faultPlace;
            default:
                return NONE;
        }
    }

    // ---- acts

    public int relate(int a, int b) {
        if (!now.has(a) || !now.has(b)) {
            return WRONG;
        }
        if (a == b || now.isUnder(b, a)) {
            return IMPOSSIBLE;
        }
        past.push(now);
        now.put(a, b);
        return now.pairs();
    }

    public int lift(int a, int b, int v) {
        if (!now.has(a) || !now.has(b) || a == b || v < 0 || v > MOST_LABEL) {
            return WRONG;
        }
        past.push(now);
        int was = now.tagOf(a, b);
        now.setTag(a, b, v);
        return was;
    }

    public int rule(int r) {
        if (!isOrder() || r < 0 || r > LAST_RULE) {
            return WRONG;
        }
        past.push(now);
        int was = now.labelRule;
        now.labelRule = r;
        return was;
    }

    public int drop(int x) {
        if (!now.has(x)) {
            return WRONG;
        }
        int left = Integer.bitCount(now.there) - 1;
        if (left == 0) {
            return IMPOSSIBLE;
        }
        past.push(now);
        now.takeAway(x);
        return left;
    }

    public int undo() {
        if (!isOrder()) {
            return WRONG;
        }
        return past.pop(now) ? past.size : IMPOSSIBLE;
    }

    public boolean keep(int k) {
        if (!isOrder() || k < 0 || k >= KEEPS) {
            return false;
        }
        kept[k].copy(now);
        return true;
    }

    public boolean again(int k) {
        if (!isKept(k)) {
            return false;
        }
        past.push(now);
        now.copy(kept[k]);
        return true;
    }

    // ---- the order

    public int of(int x, int what) throws NoSuchElementException {
        if (!now.has(x) || what < 0 || what > 3) {
            throw new NoSuchElementException();
        }
        switch (what) {
            case 0:
                return now.above[x];
            case 1:
                return now.under[x];
            case 2:
                return now.coverers(x, now.there);
            default:
                return now.covered(x, now.there);
        }
    }

    public int label(int a, int b) {
        if (!now.has(a) || !now.has(b)) {
            return WRONG;
        }
        return now.isEdge(a, b) ? now.edgeLabel(a, b) : IMPOSSIBLE;
    }

    public int height(int x) {
        if (!now.has(x)) {
            return NONE;
        }
        sums.measure(now, now.there);
        return sums.far[x];
    }

    public int join(int a, int b) {
        if (!now.has(a) || !now.has(b)) {
            return WRONG;
        }
        return now.leastOf(now.atLeast(a) & now.atLeast(b));
    }

    public int meet(int a, int b) {
        if (!now.has(a) || !now.has(b)) {
            return WRONG;
        }
        return now.greatestOf(now.atMost(a) & now.atMost(b));
    }

    public int kind(int what) {
        if (!isOrder()) {
            return NONE;
        }
        switch (what) {
            case 0:
                return asNumber(now.leastOf(now.there) >= 0 && now.greatestOf(now.there) >= 0);
            case 1:
                return asNumber(isGraded());
            case 2:
                return asNumber(bounds.fill(now));
            case 3:
                return asNumber(bounds.fill(now) && bounds.distributes(now, false));
            case 4:
                return asNumber(bounds.fill(now) && bounds.distributes(now, true));
            case 5:
                return asNumber(now.isRow(now.there));
            default:
                return NONE;
        }
    }

    public int width() {
        return isOrder() ? now.widest() : NONE;
    }

    public int ideals() {
        // Each such set is told by its highest points, of which none is below another one.
        return isOrder() ? now.spreadSets() : NONE;
    }

    public int extensions() {
        return isOrder() ? sums.extensionsOf(now) : NONE;
    }

    public int extension(int i) {
        int n = now.leastRow(sums.row);
        return i >= 0 && i < n ? sums.row[i] : NONE;
    }

    // ---- chains of an interval

    public int interval(int a, int b) {
        int bad = troubleOf(a, b);
        return bad != 0 ? bad : now.between(a, b);
    }

    public int chains(int a, int b, int what) {
        if (what < 0 || what > 4) {
            return WRONG;
        }
        int bad = troubleOf(a, b);
        if (bad != 0) {
            return bad;
        }
        list.fill(now, a, b);
        switch (what) {
            case 0:
                return list.size;
            case 1:
                return list.rising();
            case 2:
                return list.descending();
            case 3:
                return list.longest();
            default:
                return list.shortest();
        }
    }

    public int point(int a, int b, int i, int k) {
        int bad = troubleOf(a, b);
        if (bad != 0) {
            return bad;
        }
        list.fill(now, a, b);
        if (!list.hasChain(i) || k < 0 || k > list.rows[i].length) {
            return IMPOSSIBLE;
        }
        return list.rows[i].points[k];
    }

    public int labelOf(int a, int b, int i, int k) {
        int bad = troubleOf(a, b);
        if (bad != 0) {
            return bad;
        }
        list.fill(now, a, b);
        if (!list.hasChain(i) || k < 0 || k >= list.rows[i].length) {
            return IMPOSSIBLE;
        }
        return list.rows[i].labels[k];
    }

    public int falls(int a, int b, int i) {
        int bad = troubleOf(a, b);
        if (bad != 0) {
            return bad;
        }
        list.fill(now, a, b);
        return list.hasChain(i) ? list.rows[i].fallSet() : IMPOSSIBLE;
    }

    public int falling(int a, int b, int set) {
        if (!isPlaceSet(set)) {
            return WRONG;
        }
        int bad = troubleOf(a, b);
        if (bad != 0) {
            return bad;
        }
        list.fill(now, a, b);
        return list.withFalls(set);
    }

    public int flag(int a, int b, int set, boolean beta) {
        if (!isPlaceSet(set) || troubleOf(a, b) != 0) {
            return NO_NUMBER;
        }
        sums.measure(now, now.between(a, b));
        int inner = now.innerOf(a, b);
        return beta ? sums.betaOf(now, inner, set) : sums.flagOf(now, inner, set);
    }

    public int lexed() {
        if (!isOrder()) {
            return IMPOSSIBLE;
        }
        for (int a = 0; a < MOST_POINTS; a++) {
            for (int b = 0; b < MOST_POINTS; b++) {
                if (troubleOf(a, b) != 0) {
                    continue;
                }
                list.fill(now, a, b);
                if (!list.isLexed()) {
                    return 10 * a + b;
                }
            }
        }
        return NONE;
    }

    // ---- numbers

    public int moebius(int a, int b) {
        if (troubleOf(a, b) != 0) {
            return NO_NUMBER;
        }
        return sums.mobius(now, a, b, now.between(a, b));
    }

    public int whitney(int a, int k, int what) {
        if (!now.has(a) || k < 0 || what < 0 || what > 1) {
            return NO_NUMBER;
        }
        int upward = now.atLeast(a);
        sums.measure(now, upward);
        sums.mobius(now, a, a, upward);
        int total = 0;
        for (int x = 0; x < MOST_POINTS; x++) {
            if (isIn(upward, x) && sums.far[x] == k) {
                total += what == 0 ? 1 : sums.value[x];
            }
        }
        return total;
    }

    public long zeta(int a, int b, int n) {
        if (n < 1 || n > MOST_ZETA) {
            return WRONG;
        }
        int bad = troubleOf(a, b);
        if (bad != 0) {
            return bad;
        }
        sums.walk(now, a, now.between(a, b));
        long total = sums.zetaOf(b, n);
        return total < 0 ? THIRD : total;
    }

    public int steps(int a, int b, int k) {
        if (k < 0) {
            return WRONG;
        }
        int bad = troubleOf(a, b);
        if (bad != 0) {
            return bad;
        }
        sums.walk(now, a, now.between(a, b));
        return sums.walksTo(b, k);
    }

    public int faces(int a, int b, int d) {
        if (d < NONE) {
            return WRONG;
        }
        int bad = troubleWithin(a, b);
        if (bad != 0) {
            return bad;
        }
        if (d > MOST_STEPS) {
            return 0;
        }
        // A face with a and b at its ends is a row from a to b.
        sums.walk(now, a, now.between(a, b));
        return sums.walksTo(b, d + 2);
    }

    public int holes(int a, int b, int d, int p) {
        if (d < NONE || (p != 2 && p != 3 && p != 5 && p != 7)) {
            return WRONG;
        }
        int bad = troubleWithin(a, b);
        if (bad != 0) {
            return bad;
        }
        if (d > MOST_STEPS) {
            return 0;
        }
        int inner = now.innerOf(a, b);
        int size = d + 1;
        return complex.list(now, inner, size)
                - complex.rank(now, inner, size, p)
                - complex.rank(now, inner, size + 1, p);
    }

    // ---- shells

    public int shelled(int a, int b) {
        int bad = troubleWithin(a, b);
        if (bad != 0) {
            return bad == WRONG ? THIRD : bad;
        }
        list.fill(now, a, b);
        for (int j = 1; j < list.size; j++) {
            if (!list.isShell(j)) {
                return j;
            }
        }
        return NONE;
    }

    public int crease(int a, int b, int i) {
        int bad = troubleWithin(a, b);
        if (bad != 0) {
            return bad;
        }
        list.fill(now, a, b);
        return list.hasChain(i) ? list.creaseSet(i) : IMPOSSIBLE;
    }

    public int creased(int a, int b, int k) {
        if (k < 0) {
            return WRONG;
        }
        int bad = troubleWithin(a, b);
        if (bad != 0) {
            return bad;
        }
        list.fill(now, a, b);
        int many = 0;
        for (int i = 0; i < list.size; i++) {
            if (Integer.bitCount(list.creaseSet(i)) == k) {
                many++;
            }
        }
        return many;
    }

    // ---- what is taken away

    public int without(int a, int b, int x) {
        if (troubleOf(a, b) != 0 || !isIn(now.innerOf(a, b), x)) {
            return NO_NUMBER;
        }
        return sums.mobius(now, a, b, now.between(a, b) & ~(1 << x));
    }

    public int counted(int a, int b) {
        int bad = troubleOf(a, b);
        if (bad != 0) {
            return bad;
        }
        int all = now.between(a, b);
        int inner = now.innerOf(a, b);
        int whole = sums.mobius(now, a, b, all);
        int found = 0;
        for (int x = 0; x < MOST_POINTS; x++) {
            if (isIn(inner, x) && sums.mobius(now, a, b, all & ~(1 << x)) != whole) {
                found |= 1 << x;
            }
        }
        return found;
    }

    public int core(int i) {
        if (!isOrder() || i < NONE) {
            return THIRD;
        }
        int left = now.there;
        for (int taken = 0; taken < MOST_POINTS; taken++) {
            int x = now.leastIrreducible(left);
            if (x == NONE) {
                break;
            }
            if (taken == i) {
                return x;
            }
            left &= ~(1 << x);
        }
        return i == NONE ? Integer.bitCount(left) : IMPOSSIBLE;
    }

    public int selves() {
        return isOrder() ? matcher.selvesOf(now) : NONE;
    }

    public int like(int k) {
        if (!isKept(k)) {
            return WRONG;
        }
        return asNumber(matcher.isLike(now, kept[k]));
    }

    public int count(int what) {
        switch (what) {
            case 0:
                return now.told;
            case 1:
                return now.there;
            case 2:
                return now.pairs();
            case 3:
                return now.edges();
            case 4:
                return now.labelRule;
            case 5:
                return past.size;
            case 6:
                return reader.size;
            default:
                return NONE;
        }
    }

    // ---- what the calls share

    private boolean isOrder() {
        return now.told > 0;
    }

    private boolean isKept(int k) {
        return k >= 0 && k < KEEPS && kept[k].told > 0;
    }

    /** 0 if (a, b) is an interval, else the code that most calls answer. */
    private int troubleOf(int a, int b) {
        if (!now.has(a) || !now.has(b)) {
            return WRONG;
        }
        return a == b || now.isUnder(a, b) ? 0 : IMPOSSIBLE;
    }

    /** The same for calls that want a below b. */
    private int troubleWithin(int a, int b) {
        int bad = troubleOf(a, b);
        return bad == 0 && a == b ? IMPOSSIBLE : bad;
    }

    /**
     * Of each interval all chains are of one length. It is enough that each edge over a goes up by one
     * height over a: then each chain from a to b has as many steps as b is high.
     */
    private boolean isGraded() {
        for (int a = 0; a < MOST_POINTS; a++) {
            if (now.has(a) && !isGradedOver(a)) {
                return false;
            }
        }
        return true;
    }

    private boolean isGradedOver(int a) {
        int upward = now.atLeast(a);
        sums.measure(now, upward);
        for (int x = 0; x < MOST_POINTS; x++) {
            if (!isIn(upward, x)) {
                continue;
            }
            int next = now.coverers(x, upward);
            for (int y = 0; y < MOST_POINTS; y++) {
                if (isIn(next, y) && sums.far[y] != sums.far[x] + 1) {
                    return false;
                }
            }
        }
        return true;
    }

    private static boolean isIn(int set, int x) {
        return x >= 0 && x < MOST_POINTS && (set >> x & 1) != 0;
    }

    /** A set of places 1 .. 8. */
    private static boolean isPlaceSet(int set) {
        return set >= 0 && set < SETS && (set & 1) == 0;
    }

    private static int asNumber(boolean so) {
        return so ? 1 : 0;
    }

    /** Points, what is below what, labels told, the rule: all that an act can change. */
    private static final class Poset {
        /** How many points were told; 0: this is no order. */
        int told;
        int there;
        int labelRule;
        /** By point, all that it is below; of a point that is not there nothing, nor in any other set. */
        final int[] above = new int[MOST_POINTS];
        final int[] under = new int[MOST_POINTS];
        final int[] tags = new int[MOST_POINTS * MOST_POINTS];

        void begin(int points) {
            told = points;
            there = (1 << points) - 1;
            labelRule = 0;
            Arrays.fill(above, 0);
            Arrays.fill(under, 0);
            Arrays.fill(tags, 0);
        }

        void copy(Poset other) {
            told = other.told;
            there = other.there;
            labelRule = other.labelRule;
            System.arraycopy(other.above, 0, above, 0, MOST_POINTS);
            System.arraycopy(other.under, 0, under, 0, MOST_POINTS);
            System.arraycopy(other.tags, 0, tags, 0, MOST_POINTS * MOST_POINTS);
        }

        boolean has(int x) {
            return isIn(there, x);
        }

        boolean isUnder(int a, int b) {
            return has(a) && isIn(above[a], b);
        }

        /** Puts a below b, two points that are there, b not below a; what follows from it is put, too. */
        void put(int a, int b) {
            if (!has(a) || !has(b)) {
                return;
            }
            int low = under[a] | 1 << a;
            int high = above[b] | 1 << b;
            for (int x = 0; x < MOST_POINTS; x++) {
                if (isIn(low, x)) {
                    above[x] |= high;
                }
                if (isIn(high, x)) {
                    under[x] |= low;
                }
            }
        }

        void takeAway(int x) {
            if (!has(x)) {
                return;
            }
            int rest = ~(1 << x);
            there &= rest;
            above[x] = 0;
            under[x] = 0;
            for (int y = 0; y < MOST_POINTS; y++) {
                above[y] &= rest;
                under[y] &= rest;
            }
        }

        int tagOf(int a, int b) {
            int i = a * MOST_POINTS + b;
            return i >= 0 && i < tags.length ? tags[i] : 0;
        }

        void setTag(int a, int b, int v) {
            int i = a * MOST_POINTS + b;
            if (i >= 0 && i < tags.length) {
                tags[i] = v;
            }
        }

        int atLeast(int x) {
            return has(x) ? above[x] | 1 << x : 0;
        }

        int atMost(int x) {
            return has(x) ? under[x] | 1 << x : 0;
        }

        /** The points of an interval; the empty set if it is none. */
        int between(int a, int b) {
            return atLeast(a) & atMost(b);
        }

        int innerOf(int a, int b) {
            return has(a) && has(b) ? above[a] & under[b] : 0;
        }

        /** What covers x, if there were just the points of a set. */
        int coverers(int x, int within) {
            return has(x) ? endsOf(above[x] & within, under) : 0;
        }

        /** What x covers, if there were just the points of a set. */
        int covered(int x, int within) {
            return has(x) ? endsOf(under[x] & within, above) : 0;
        }

        /** The points of a set that have no other one of it on their side. */
        private static int endsOf(int set, int[] side) {
            int found = 0;
            for (int y = 0; y < MOST_POINTS && y < side.length; y++) {
                if (isIn(set, y) && (set & side[y]) == 0) {
                    found |= 1 << y;
                }
            }
            return found;
        }

        boolean isEdge(int a, int b) {
            return isUnder(a, b) && innerOf(a, b) == 0;
        }

        int edgeLabel(int a, int b) {
            switch (labelRule) {
                case 1:
                    return b;
                case 2:
                    return Math.max(a, b);
                case 3:
                    return Math.abs(a - b);
                default:
                    return tagOf(a, b);
            }
        }

        int pairs() {
            int many = 0;
            for (int x = 0; x < MOST_POINTS; x++) {
                many += Integer.bitCount(above[x]);
            }
            return many;
        }

        int edges() {
            int many = 0;
            for (int x = 0; x < MOST_POINTS; x++) {
                many += Integer.bitCount(coverers(x, there));
            }
            return many;
        }

        /** The point of a set that is below all others of it, or -2. */
        int leastOf(int set) {
            for (int x = 0; x < MOST_POINTS; x++) {
                if (isIn(set, x) && (set & ~atLeast(x)) == 0) {
                    return x;
                }
            }
            return IMPOSSIBLE;
        }

        /** The point of a set that all others of it are below, or -2. */
        int greatestOf(int set) {
            for (int x = 0; x < MOST_POINTS; x++) {
                if (isIn(set, x) && (set & ~atMost(x)) == 0) {
                    return x;
                }
            }
            return IMPOSSIBLE;
        }

        boolean isRow(int set) {
            for (int x = 0; x < MOST_POINTS; x++) {
                if (isIn(set, x) && (set & ~(above[x] | under[x] | 1 << x)) != 0) {
                    return false;
                }
            }
            return true;
        }

        /** Fills a row with all points, none ahead of one that is below it, of least numbers: how many. */
        int leastRow(int[] row) {
            int open = there;
            int n = 0;
            for (int turn = 0; turn < MOST_POINTS && n < row.length; turn++) {
                int x = leastFree(open);
                if (x != NONE) {
                    row[n] = x;
                    n++;
                    open &= ~(1 << x);
                }
            }
            return n;
        }

        private int leastFree(int open) {
            for (int x = 0; x < MOST_POINTS; x++) {
                if (isIn(open, x) && (under[x] & open) == 0) {
                    return x;
                }
            }
            return NONE;
        }

        /** Whether all of a set are points that are there, and none is below another. */
        private boolean isSpread(int set) {
            if ((set & ~there) != 0) {
                return false;
            }
            for (int x = 0; x < MOST_POINTS; x++) {
                if (isIn(set, x) && (set & above[x]) != 0) {
                    return false;
                }
            }
            return true;
        }

        int widest() {
            int most = 0;
            for (int set = 0; set < SETS; set++) {
                if (isSpread(set)) {
                    most = Math.max(most, Integer.bitCount(set));
                }
            }
            return most;
        }

        int spreadSets() {
            int many = 0;
            for (int set = 0; set < SETS; set++) {
                if (isSpread(set)) {
                    many++;
                }
            }
            return many;
        }

        int leastIrreducible(int left) {
            for (int x = 0; x < MOST_POINTS; x++) {
                if (isIn(left, x)
                        && (Integer.bitCount(covered(x, left)) == 1 || Integer.bitCount(coverers(x, left)) == 1)) {
                    return x;
                }
            }
            return NONE;
        }
    }

    /** The orders ahead of the latest acts, in a ring. */
    private static final class Past {
        private final Poset[] ring = new Poset[MOST_UNDONE];
        private int next;
        int size;

        Past() {
            for (int i = 0; i < MOST_UNDONE; i++) {
                ring[i] = new Poset();
            }
        }

        void forget() {
            size = 0;
        }

        void push(Poset order) {
            ring[next].copy(order);
            next = next + 1 < MOST_UNDONE ? next + 1 : 0;
            size = Math.min(size + 1, MOST_UNDONE);
        }

        boolean pop(Poset order) {
            if (size == 0) {
                return false;
            }
            next = next > 0 ? next - 1 : MOST_UNDONE - 1;
            size--;
            order.copy(ring[next]);
            return true;
        }
    }

    /** The tape, and the reading of it. */
    private static final class Reader {
        private final char[] signs = new char[MOST_SIGNS];
        int size;
        /** What the tape tells; whole only when readLines() does not answer NONE. */
        final Poset draft = new Poset();
        int faultCode;
        int faultPlace = NONE;
        private boolean ruleTold;
        private int at;
        private int kindOfToken;
        private int start;
        private int digits;
        private int number;

        int append(int v) {
            if (size + 4 > MOST_SIGNS) {
                return NONE;
            }
            for (int shift = 24; shift >= 0; shift -= 8) {
                signs[size] = (char) (v >>> shift & 255);
                size++;
            }
            return size;
        }

        boolean cut(int n) {
            if (n < 0 || n > size) {
                return false;
            }
            size = n;
            return true;
        }

        /** How many lines the tape tells, NONE if it has a fault. */
        int readLines() {
            at = 0;
            faultCode = 0;
            faultPlace = NONE;
            ruleTold = false;
            draft.begin(0);
            for (int lines = 1; lines <= MOST_SIGNS; lines++) {
                nextToken();
                if (!readLine(lines == 1)) {
                    return NONE;
                }
                if (kindOfToken == END_TOKEN) {
                    return lines;
                }
                if (kindOfToken != SEMICOLON) {
                    refuse(MISPLACED);
                    return NONE;
                }
            }
            return NONE;
        }

        /** Reads a line and the token behind it; false: a fault. */
        private boolean readLine(boolean first) {
            int line = kindOfToken;
            if (line != POINTS_WORD && line != RULE_WORD && line != LABEL_WORD && line != NUMBER_TOKEN) {
                return refuse(MISPLACED);
            }
            if (first != (line == POINTS_WORD) || (line == RULE_WORD && ruleTold)) {
                return refuse(BAD_LINE);
            }
            switch (line) {
                case POINTS_WORD:
                    return readPoints();
                case RULE_WORD:
                    return readRule();
                case LABEL_WORD:
                    return readLabel();
                default:
                    return readRelations();
            }
        }

        private boolean readPoints() {
            nextToken();
            if (!isNumber(1, MOST_POINTS)) {
                return false;
            }
            draft.begin(number);
            nextToken();
            return true;
        }

        private boolean readRule() {
            nextToken();
            if (!isNumber(0, LAST_RULE)) {
                return false;
            }
            draft.labelRule = number;
            ruleTold = true;
            nextToken();
            return true;
        }

        private boolean readLabel() {
            nextToken();
            if (!isNumber(0, draft.told - 1)) {
                return false;
            }
            int a = number;
            nextToken();
            if (!isNumber(0, draft.told - 1)) {
                return false;
            }
            int b = number;
            if (a == b) {
                return refuse(BAD_NUMBER);
            }
            nextToken();
            if (!isNumber(0, MOST_LABEL)) {
                return false;
            }
            draft.setTag(a, b, number);
            nextToken();
            return true;
        }

        private boolean readRelations() {
            if (!isNumber(0, draft.told - 1)) {
                return false;
            }
            int a = number;
            nextToken();
            if (kindOfToken != LESS_SIGN) {
                return refuse(MISPLACED);
            }
            for (int turn = 0; turn < MOST_SIGNS && kindOfToken == LESS_SIGN; turn++) {
                nextToken();
                if (!isNumber(0, draft.told - 1)) {
                    return false;
                }
                int b = number;
                if (a == b || draft.isUnder(b, a)) {
                    return refuse(BAD_CIRCLE);
                }
                draft.put(a, b);
                a = b;
                nextToken();
            }
            return true;
        }

        /** Whether the token is a number within bounds; else it is a fault. */
        private boolean isNumber(int low, int high) {
            if (kindOfToken != NUMBER_TOKEN) {
                return refuse(MISPLACED);
            }
            if (digits > 2 || number < low || number > high) {
                return refuse(BAD_NUMBER);
            }
            return true;
        }

        private boolean refuse(int code) {
            faultCode = code;
            faultPlace = start;
            return false;
        }

        private void nextToken() {
            while (at < size && (signs[at] == ' ' || signs[at] == '\n')) {
                at++;
            }
            start = at;
            if (at >= size) {
                kindOfToken = END_TOKEN;
            } else if (isLetter(signs[at])) {
                takeWord();
            } else if (isDigit(signs[at])) {
                takeNumber();
            } else {
                kindOfToken = signs[at] == ';' ? SEMICOLON : signs[at] == '<' ? LESS_SIGN : OTHER_TOKEN;
                at++;
            }
        }

        private void takeWord() {
            while (at < size && isLetter(signs[at])) {
                at++;
            }
            kindOfToken = isWord("points") ? POINTS_WORD
                    : isWord("rule") ? RULE_WORD
                    : isWord("label") ? LABEL_WORD
                    : OTHER_TOKEN;
        }

        private void takeNumber() {
            kindOfToken = NUMBER_TOKEN;
            digits = 0;
            number = 0;
            while (at < size && isDigit(signs[at])) {
                // More than two digits are a fault whatever their number is: it need not be held.
                if (digits < 2) {
                    number = 10 * number + (signs[at] - '0');
                }
                digits++;
                at++;
            }
        }

        private boolean isWord(String word) {
            if (at - start != word.length()) {
                return false;
            }
            for (int i = 0; i < word.length(); i++) {
                if (signs[start + i] != word.charAt(i)) {
                    return false;
                }
            }
            return true;
        }

        private static boolean isLetter(char c) {
            return c >= 'a' && c <= 'z';
        }

        private static boolean isDigit(char c) {
            return c >= '0' && c <= '9';
        }
    }

    /** One chain of an interval. */
    private static final class Chain {
        /** How many steps, and so how many labels; there is one point more. */
        int length;
        int set;
        final int[] points = new int[MOST_POINTS];
        final int[] labels = new int[MOST_STEPS];

        void take(Poset order, int[] path, int steps) {
            length = Math.min(steps, MOST_STEPS);
            set = 0;
            for (int k = 0; k <= length; k++) {
                points[k] = path[k];
                set |= 1 << path[k];
                if (k > 0) {
                    labels[k - 1] = order.edgeLabel(path[k - 1], path[k]);
                }
            }
        }

        boolean isAheadOf(Chain other) {
            for (int k = 0; k < length && k < other.length; k++) {
                if (labels[k] != other.labels[k]) {
                    return labels[k] < other.labels[k];
                }
            }
            return length < other.length;
        }

        /** The places at which a label is less than the one ahead. */
        int fallSet() {
            int found = 0;
            for (int k = 1; k < length; k++) {
                if (labels[k] < labels[k - 1]) {
                    found |= 1 << k;
                }
            }
            return found;
        }

        boolean isRising() {
            return fallSet() == 0;
        }

        boolean isDescending() {
            return length < 2 || Integer.bitCount(fallSet()) == length - 1;
        }
    }

    /** The chains of an interval, as they stand. */
    private static final class ChainList {
        int size;
        final Chain[] rows = new Chain[MOST_CHAINS];
        private final int[] path = new int[MOST_POINTS];

        ChainList() {
            for (int i = 0; i < MOST_CHAINS; i++) {
                rows[i] = new Chain();
            }
        }

        boolean hasChain(int i) {
            return i >= 0 && i < size;
        }

        void fill(Poset order, int a, int b) {
            size = 0;
            path[0] = a;
            grow(order, b, 0);
        }

        /** Goes on with the path's place k in all ways, lower points first: so chains come by their points. */
        private void grow(Poset order, int b, int k) {
            if (path[k] == b) {
                insert(order, k);
                return;
            }
            if (k + 1 >= MOST_POINTS) {
                return;
            }
            int next = order.coverers(path[k], order.atMost(b));
            for (int y = 0; y < MOST_POINTS; y++) {
                if (isIn(next, y)) {
                    path[k + 1] = y;
                    grow(order, b, k + 1);
                }
            }
        }

        /** Behind all chains of like labels, as these have come with lesser points. */
        private void insert(Poset order, int steps) {
            if (size >= MOST_CHAINS) {
                return;
            }
            Chain fresh = rows[size];
            fresh.take(order, path, steps);
            int i = size;
            while (i > 0 && fresh.isAheadOf(rows[i - 1])) {
                rows[i] = rows[i - 1];
                i--;
            }
            rows[i] = fresh;
            size++;
        }

        int rising() {
            return withFalls(0);
        }

        boolean isLexed() {
            return rising() == 1 && rows[0].isRising();
        }

        int descending() {
            int many = 0;
            for (int i = 0; i < size; i++) {
                if (rows[i].isDescending()) {
                    many++;
                }
            }
            return many;
        }

        int longest() {
            int most = 0;
            for (int i = 0; i < size; i++) {
                most = Math.max(most, rows[i].length);
            }
            return most;
        }

        int shortest() {
            int least = MOST_STEPS;
            for (int i = 0; i < size; i++) {
                least = Math.min(least, rows[i].length);
            }
            return least;
        }

        int withFalls(int set) {
            int many = 0;
            for (int i = 0; i < size; i++) {
                if (rows[i].fallSet() == set) {
                    many++;
                }
            }
            return many;
        }

        /** Whether chain j lies on the earlier ones along sides that lack just one of its points. */
        boolean isShell(int j) {
            for (int i = 0; i < j; i++) {
                if (!hasSide(j, rows[i].set & rows[j].set)) {
                    return false;
                }
            }
            return true;
        }

        private boolean hasSide(int j, int shared) {
            for (int k = 0; k < j; k++) {
                if (isSide(j, k) && (shared & ~rows[k].set) == 0) {
                    return true;
                }
            }
            return false;
        }

        private boolean isSide(int j, int k) {
            return Integer.bitCount(rows[j].set & ~rows[k].set) == 1;
        }

        int creaseSet(int j) {
            int found = 0;
            for (int k = 0; k < j; k++) {
                if (isSide(j, k)) {
                    found |= rows[j].set & ~rows[k].set;
                }
            }
            return found;
        }
    }

    /** Heights and sums that run upwards through the points. */
    private static final class Sums {
        /** All points, none ahead of one that is below it. */
        final int[] row = new int[MOST_POINTS];
        final int[] far = new int[MOST_POINTS];
        final int[] value = new int[MOST_POINTS];
        private final int[] walks = new int[MOST_POINTS * MOST_POINTS];
        private final int[] bySet = new int[SETS];

        /** The most steps of a row of a set's points to each of them. */
        void measure(Poset order, int within) {
            int n = order.leastRow(row);
            for (int i = 0; i < n; i++) {
                int x = row[i];
                if (!isIn(within, x)) {
                    continue;
                }
                far[x] = 0;
                for (int y = 0; y < MOST_POINTS; y++) {
                    if (isIn(order.under[x] & within, y)) {
                        far[x] = Math.max(far[x], far[y] + 1);
                    }
                }
            }
        }

        private int valuesIn(int set) {
            int total = 0;
            for (int y = 0; y < MOST_POINTS; y++) {
                if (isIn(set, y)) {
                    total += value[y];
                }
            }
            return total;
        }

        /** Moebius numbers from a to all of a set that has no point but a and such as a is below: b's. */
        int mobius(Poset order, int a, int b, int within) {
            int n = order.leastRow(row);
            for (int i = 0; i < n; i++) {
                int x = row[i];
                if (isIn(within, x)) {
                    value[x] = x == a ? 1 : -valuesIn(order.under[x] & within);
                }
            }
            return isIn(within, b) ? value[b] : 0;
        }

        /** Those of a set that measure() found at one of these heights. */
        private int atHeights(int within, int heights) {
            int found = 0;
            for (int x = 0; x < MOST_POINTS; x++) {
                if (isIn(within, x) && isIn(heights, far[x])) {
                    found |= 1 << x;
                }
            }
            return found;
        }

        /** Rows of one inner point at each height; value[x] counts those up to x. */
        int flagOf(Poset order, int inner, int heights) {
            int total = 1;
            int last = 0;
            boolean first = true;
            for (int h = 1; h < MOST_POINTS; h++) {
                if (!isIn(heights, h)) {
                    continue;
                }
                int level = atHeights(inner, 1 << h);
                total = 0;
                for (int x = 0; x < MOST_POINTS; x++) {
                    if (isIn(level, x)) {
                        value[x] = first ? 1 : valuesIn(order.under[x] & last);
                        total += value[x];
                    }
                }
                last = level;
                first = false;
            }
            return total;
        }

        /**
         * The points of a row have unlike heights, so the subsets' flags are all rows of points at these
         * heights: value[x] sums such rows up to x, each with the sign of how many points it has.
         */
        int betaOf(Poset order, int inner, int heights) {
            int open = atHeights(inner, heights);
            int n = order.leastRow(row);
            for (int i = 0; i < n; i++) {
                int x = row[i];
                if (isIn(open, x)) {
                    value[x] = -1 - valuesIn(order.under[x] & open);
                }
            }
            int total = 1 + valuesIn(open);
            return (Integer.bitCount(heights) & 1) == 0 ? total : -total;
        }

        /** How many rows of k steps go from a to each point of an interval that begins with a. */
        void walk(Poset order, int a, int within) {
            Arrays.fill(walks, 0);
            int n = order.leastRow(row);
            for (int i = 0; i < n; i++) {
                int x = row[i];
                if (!isIn(within, x)) {
                    continue;
                }
                if (x == a) {
                    walks[x * MOST_POINTS] = 1;
                }
                for (int y = 0; y < MOST_POINTS; y++) {
                    if (isIn(order.under[x] & within, y)) {
                        addStep(y, x);
                    }
                }
            }
        }

        private void addStep(int y, int x) {
            for (int k = 1; k < MOST_POINTS; k++) {
                walks[x * MOST_POINTS + k] += walks[y * MOST_POINTS + k - 1];
            }
        }

        int walksTo(int b, int k) {
            return b >= 0 && b < MOST_POINTS && k >= 0 && k < MOST_POINTS ? walks[b * MOST_POINTS + k] : 0;
        }

        /**
         * Rows of n steps that may stay: a row of k steps, and which k of the n steps do not stay.
         * Below 0: more than a long can hold.
         */
        long zetaOf(int b, int n) {
            long total = 0;
            long ways = 1;
            for (int k = 0; k <= MOST_STEPS; k++) {
                if (k > 0) {
                    ways = nextChoice(ways, n, k);
                }
                int rows = walksTo(b, k);
                if (rows == 0) {
                    continue;
                }
                if (ways < 0 || ways > (Long.MAX_VALUE - total) / rows) {
                    return WRONG;
                }
                total += ways * rows;
            }
            return total;
        }

        /** From n over (k less 1) to n over k; below 0: more than a long can hold. */
        private static long nextChoice(long ways, int n, int k) {
            long times = n - k + 1;
            if (k < 1 || times < 1) {
                return 0;
            }
            if (ways < 0) {
                return WRONG;
            }
            // Divided first, or the product could be too great where the answer is not.
            long rest = ways % k * times / k;
            long whole = ways / k;
            return whole > (Long.MAX_VALUE - rest) / times ? WRONG : whole * times + rest;
        }

        /** How many rows of all points go upwards, by the same of the sets that lack the last point. */
        int extensionsOf(Poset order) {
            bySet[0] = 1;
            for (int set = 1; set < SETS; set++) {
                if ((set & ~order.there) == 0) {
                    bySet[set] = endingsOf(order, set);
                }
            }
            return bySet[order.there & SETS - 1];
        }

        private int endingsOf(Poset order, int set) {
            int total = 0;
            for (int x = 0; x < MOST_POINTS; x++) {
                if (isIn(set, x) && (order.above[x] & set) == 0) {
                    total += bySet[set & ~(1 << x)];
                }
            }
            return total;
        }
    }

    /** Joins and meets of all two points. */
    private static final class Bounds {
        private final int[] joins = new int[MOST_POINTS * MOST_POINTS];
        private final int[] meets = new int[MOST_POINTS * MOST_POINTS];

        /** False: two points have none. */
        boolean fill(Poset order) {
            for (int a = 0; a < MOST_POINTS; a++) {
                for (int b = 0; b < MOST_POINTS; b++) {
                    if (!order.has(a) || !order.has(b)) {
                        continue;
                    }
                    int i = a * MOST_POINTS + b;
                    joins[i] = order.leastOf(order.atLeast(a) & order.atLeast(b));
                    meets[i] = order.greatestOf(order.atMost(a) & order.atMost(b));
                    if (joins[i] < 0 || meets[i] < 0) {
                        return false;
                    }
                }
            }
            return true;
        }

        /** Behind a fill() that found all: of all x, y, z, or of those alone of which z is x or below x. */
        boolean distributes(Poset order, boolean lowAlone) {
            for (int x = 0; x < MOST_POINTS; x++) {
                for (int z = 0; z < MOST_POINTS; z++) {
                    boolean asked = order.has(x) && order.has(z) && (!lowAlone || isIn(order.atMost(x), z));
                    if (asked && !distributesAt(order, x, z)) {
                        return false;
                    }
                }
            }
            return true;
        }

        private boolean distributesAt(Poset order, int x, int z) {
            for (int y = 0; y < MOST_POINTS; y++) {
                if (order.has(y)) {
                    int left = at(meets, x, at(joins, y, z));
                    int right = at(joins, at(meets, x, y), at(meets, x, z));
                    if (left != right) {
                        return false;
                    }
                }
            }
            return true;
        }

        private static int at(int[] table, int a, int b) {
            int i = a * MOST_POINTS + b;
            return a >= 0 && b >= 0 && i < table.length ? table[i] : NONE;
        }
    }

    /** Rows of inner points as faces, each a set of points, and the ranks of the maps among them. */
    private static final class Complex {
        /** By face, its column. */
        private final int[] places = new int[SETS];
        /**
         * The row that begins in column c, from c times MOST_FACES on. It begins with 1, and so a 0 there
         * says that no such row stands.
         */
        private final int[] pivots = new int[MOST_FACES * MOST_FACES];
        private final int[] line = new int[MOST_FACES];

        private static boolean isFace(Poset order, int inner, int size, int set) {
            return (set & ~inner) == 0 && Integer.bitCount(set) == size && order.isRow(set);
        }

        /** Gives the faces of so many points their columns: how many. */
        int list(Poset order, int inner, int size) {
            int many = 0;
            for (int set = 0; set < SETS; set++) {
                if (isFace(order, inner, size, set)) {
                    places[set] = many;
                    many++;
                }
            }
            return many;
        }

        /** The rank modulo p of the map from the faces of so many points. */
        int rank(Poset order, int inner, int size, int p) {
            if (size < 1) {
                return 0;
            }
            int columns = Math.min(list(order, inner, size - 1), MOST_FACES);
            for (int c = 0; c < columns; c++) {
                pivots[c * MOST_FACES + c] = 0;
            }
            int found = 0;
            for (int set = 0; set < SETS && found < columns; set++) {
                if (isFace(order, inner, size, set)) {
                    write(order, set, p);
                    if (reduce(columns, p)) {
                        found++;
                    }
                }
            }
            return found;
        }

        /** Writes where a face goes: signs by how many of its points are below the one left out. */
        private void write(Poset order, int set, int p) {
            Arrays.fill(line, 0);
            for (int x = 0; x < MOST_POINTS; x++) {
                if (!isIn(set, x)) {
                    continue;
                }
                int c = places[set & ~(1 << x)];
                if (c < MOST_FACES) {
                    boolean even = (Integer.bitCount(set & order.under[x]) & 1) == 0;
                    line[c] = even ? 1 : p - 1;
                }
            }
        }

        /** Takes off the rows that stand; if something is left, it becomes one of them. */
        private boolean reduce(int columns, int p) {
            for (int c = 0; c < columns; c++) {
                if (line[c] == 0) {
                    continue;
                }
                if (pivots[c * MOST_FACES + c] == 0) {
                    stand(c, columns, p);
                    return true;
                }
                int times = p - line[c];
                for (int i = c; i < columns; i++) {
                    line[i] = remainder(line[i] + times * pivots[c * MOST_FACES + i], p);
                }
            }
            return false;
        }

        private void stand(int c, int columns, int p) {
            int times = inverse(line[c], p);
            for (int i = c; i < columns; i++) {
                pivots[c * MOST_FACES + i] = remainder(line[i] * times, p);
            }
        }

        private static int inverse(int v, int p) {
            for (int i = 1; i < p; i++) {
                if (remainder(v * i, p) == 1) {
                    return i;
                }
            }
            return 0;
        }

        private static int remainder(int v, int p) {
            return p > 0 ? v % p : 0;
        }
    }

    /** Searches for ways in which the points of one order take the places of another's. */
    private static final class Matcher {
        private final int[] image = new int[MOST_POINTS];
        /** The points in the turn in which they look for places, and how many they are. */
        private final int[] turns = new int[MOST_POINTS];
        private int size;

        boolean isLike(Poset from, Poset to) {
            lineUp(from);
            return size == Integer.bitCount(to.there) && canFinish(from, to, 0, 0);
        }

        /**
         * How many ways in which an order is like itself: those that leave all points ahead of x where
         * they are, by where x can go, are as many for each such place; so the numbers of places multiply.
         */
        int selvesOf(Poset order) {
            lineUp(order);
            int total = 1;
            int used = 0;
            for (int i = 0; i < size && i < MOST_POINTS; i++) {
                int x = turns[i];
                total *= placesFor(order, i, used);
                image[i] = x;
                used |= 1 << x;
            }
            return total;
        }

        /** Each point comes behind those that it is related to, as far as can be: so a wrong place shows early. */
        private void lineUp(Poset order) {
            int open = order.there;
            size = 0;
            for (int i = 0; i < MOST_POINTS; i++) {
                int x = nearest(order, open);
                if (x != NONE) {
                    turns[size] = x;
                    size++;
                    open &= ~(1 << x);
                }
            }
        }

        /** The point of a set that is related to most of those that are not in it. */
        private static int nearest(Poset order, int open) {
            int found = NONE;
            int most = NONE;
            for (int x = 0; x < MOST_POINTS; x++) {
                if (isIn(open, x)) {
                    int related = Integer.bitCount((order.above[x] | order.under[x]) & ~open);
                    if (related > most) {
                        most = related;
                        found = x;
                    }
                }
            }
            return found;
        }

        private int placesFor(Poset order, int i, int used) {
            int many = 0;
            for (int y = 0; y < MOST_POINTS; y++) {
                if (fits(order, i, order, y, used)) {
                    image[i] = y;
                    if (canFinish(order, order, i + 1, used | 1 << y)) {
                        many++;
                    }
                }
            }
            return many;
        }

        /** Whether the points from turn i on find places, those ahead of it having theirs; i is the depth. */
        private boolean canFinish(Poset from, Poset to, int i, int used) {
            if (i >= size || i >= MOST_POINTS) {
                return true;
            }
            for (int y = 0; y < MOST_POINTS; y++) {
                if (fits(from, i, to, y, used)) {
                    image[i] = y;
                    if (canFinish(from, to, i + 1, used | 1 << y)) {
                        return true;
                    }
                }
            }
            return false;
        }

        private boolean fits(Poset from, int i, Poset to, int y, int used) {
            int x = turns[i];
            if (!to.has(y) || isIn(used, y)
                    || Integer.bitCount(from.above[x]) != Integer.bitCount(to.above[y])
                    || Integer.bitCount(from.under[x]) != Integer.bitCount(to.under[y])) {
                return false;
            }
            for (int k = 0; k < i; k++) {
                int z = turns[k];
                if (from.isUnder(z, x) != to.isUnder(image[k], y)
                        || from.isUnder(x, z) != to.isUnder(y, image[k])) {
                    return false;
                }
            }
            return true;
        }
    }
}

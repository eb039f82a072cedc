/** The boundary cases of promises 23 to 30 and of intervals and chains (Term 2). */
public final class ChainsBoundaryTest extends Cases {
    private static final String TERM = "Term 2";
    private static final String BLOCK = "Term 2 block";
    private static final int[] NO_INDEX = {MIN, MIN + 1, -2, -1, 12, 13, 32, MAX - 1, MAX};
    private static final int[] NO_SET = {MIN, MIN + 2, -512, -4, -2, -1, 1, 3, 7, 255, 257, 509, 511, 512, 513, 514, 1024,
        1 << 16, 1 << 30, MAX - 1, MAX};
    /** Twelve chains of four levels, so that labels and points go apart: the numbers of a level run down. */
    private static final String TURNED =
            "points 9;8<7<4<2<0;8<6<4<1<0;8<5<4;7<3<2;6<3<1;5<3;rule 0";

    public static void main(String[] args) {
        intervals();
        rowsAndHeights();
        chainsOfInterval();
        chainsStand();
        risingAndFalling();
        fallsOfChain();
        lexedOrders();
        flagsOfSets();
        intervalBits();
        intervalRefused();
        chainsMany();
        chainsRefused();
        pointsOfChains();
        pointsRefused();
        labelsOfChains();
        fallsLikewise();
        fallingSets();
        fallingRefused();
        flagSets();
        flagRefused();
        lexedFirst();
        lexedNone();
        end(promises(23, 30, TERM, BLOCK));
    }

    // ---- Term 2

    private static void intervals() {
        holds(TERM, "AN INTERVAL (a, b): a is b, or a BELOW b; in it are a, b, and what is between: INNER.");
        LabelOrder x = made(PENTAGON);
        due("a is b", x.interval(2, 2), 4);
        due("a BELOW b, none INNER", x.interval(0, 1), 3);
        due("a BELOW b, one INNER", x.interval(0, 2), 7);
        due("all", x.interval(0, 4), 31);
        due("b BELOW a", x.interval(1, 0), -2);
        due("neither", x.interval(1, 3), -2);
    }

    private static void rowsAndHeights() {
        holds(TERM, "ROWS: points one BELOW the next one.");
        LabelOrder x = made("points 3;0<1<2");
        due("from one to itself", x.steps(0, 0, 0), 1);
        due("from one to itself by a step", x.steps(0, 0, 1), 0);
        due("a step may go over a point", x.steps(0, 2, 1), 1);

        holds(TERM, "HEIGHT of x over a: the most steps of a ROW from a to x.");
        x = made("points 5;1<0<2<4;0<3<4;1<3");
        due("of a over a", x.whitney(0, 0, 0), 1);
        due("the most steps, of ROWS from a alone", x.whitney(0, 2, 0), 1);
        due("the most steps, of ROWS from a alone", x.whitney(0, 3, 0), 0);
        due("over a point below", x.whitney(1, 3, 0), 1);
    }

    private static void chainsOfInterval() {
        holds(TERM, "A CHAIN of it: a ROW from a to b, each point COVERING the one ahead; its LABELS, edge by edge.");
        LabelOrder x = made("points 4;0<1<2<3;0<2;0<3;1<3");
        due("no step goes over a point", x.chains(0, 3, 0), 1);
        due("its last point", x.point(0, 3, 0, 3), 3);
        due("its last label", x.labelOf(0, 3, 0, 2), 0);
        due("of one point: one", x.chains(1, 1, 0), 1);
        due("it has one point", x.point(1, 1, 0, 0), 1);
        due("and no label", x.labelOf(1, 1, 0, 0), -2);
        x.drop(2);
        due("through what is there", x.point(0, 3, 0, 2), 3);
    }

    private static void first(LabelOrder x, int a, int b, int i, int want) {
        due("the second point of CHAIN " + i, x.point(a, b, i, 1), want);
    }

    private static void chainsStand() {
        holds(TERM, "CHAINS stand by LABELS (the first that is unlike: the less is ahead; what ends first is ahead), of like ones by points.");
        LabelOrder x = made("points 4;0<1<3;0<2<3;label 0 1 6;label 0 2 5;label 2 3 99");
        first(x, 0, 3, 0, 2);
        x.lift(0, 2, 6);
        first(x, 0, 3, 0, 1);
        x.lift(1, 3, 99);
        first(x, 0, 3, 0, 1);
        x.lift(2, 3, 98);
        first(x, 0, 3, 0, 2);
        x = made(PENTAGON);
        due("what ends first is ahead", x.point(0, 4, 0, 1), 3);
        x.lift(3, 4, 1);
        due("unless the first unlike one is more", x.point(0, 4, 0, 1), 1);
        x.lift(2, 4, 1);
        due("the second LABEL is less", x.point(0, 4, 0, 1), 1);
        x.lift(1, 2, 1);
        due("like but for the end", x.point(0, 4, 0, 1), 3);
        x = made(TURNED);
        int[][] seconds = {{5, 3, 1}, {5, 3, 2}, {5, 4, 1}, {5, 4, 2}, {6, 3, 1}, {6, 3, 2}, {6, 4, 1}, {6, 4, 2},
            {7, 3, 1}, {7, 3, 2}, {7, 4, 1}, {7, 4, 2}};
        for (int i = 0; i < 12; i++) {
            for (int k = 1; k <= 3; k++) {
                due("of like ones by points: " + i, x.point(8, 0, i, k), seconds[i][k - 1]);
            }
        }
        // Two CHAINS of three LABELS are asked for first: what ends earlier has nothing of them behind its end.
        String more = ";4<5<7<8;4<6<7;label 4 5 99;label 4 6 99;label 5 7 99;label 6 7 99;label 7 8 99";
        x = made("points 9;0<1<2<4;0<3<4" + more);
        due("two", x.chains(4, 8, 0), 2);
        due("what ends first is ahead, of more points", x.point(0, 4, 0, 1), 3);
        x = made("points 9;0<1<4;0<2<3<4" + more);
        due("two", x.chains(4, 8, 0), 2);
        due("what ends first is ahead, of fewer points", x.point(0, 4, 0, 1), 1);
    }

    private static void risingAndFalling() {
        holds(TERM, "RISING: no LABEL is less than the one ahead.");
        LabelOrder x = made("points 3;0<1<2;label 0 1 50;label 1 2 50");
        due("like ones rise", x.chains(0, 2, 1), 1);
        x.lift(1, 2, 51);
        due("more rises", x.chains(0, 2, 1), 1);
        x.lift(1, 2, 49);
        due("less does not", x.chains(0, 2, 1), 0);
        due("no LABEL rises", x.chains(1, 1, 1), 1);
        due("one LABEL rises", x.chains(0, 1, 1), 1);
        LabelOrder line = made(LINE9 + ";rule 1");
        due("eight rise", line.chains(0, 8, 1), 1);
        line.rule(0);
        line.lift(6, 7, 1);
        due("the last does not", line.chains(0, 8, 1), 0);

        holds(TERM, "FALLING: each is less.");
        due("less falls", x.chains(0, 2, 2), 1);
        x.lift(1, 2, 50);
        due("like ones do not", x.chains(0, 2, 2), 0);
        x.lift(1, 2, 51);
        due("more does not", x.chains(0, 2, 2), 0);
        due("no LABEL falls", x.chains(2, 2, 2), 1);
        due("one LABEL falls", x.chains(1, 2, 2), 1);
        LabelOrder down = made(LINE9_DOWN + ";rule 1");
        due("eight fall", down.chains(8, 0, 2), 1);
        down.rule(3);
        due("like ones do not", down.chains(8, 0, 2), 0);
        due("two of like ones do not", down.chains(2, 0, 2), 0);
    }

    private static void fallsOfChain() {
        holds(TERM, "FALLS of a CHAIN: the places of its points (1 on) at which the LABEL behind is less than the one ahead of it, as bits.");
        LabelOrder x = made("points 4;0<1<2<3;label 0 1 5;label 1 2 5;label 2 3 5");
        due("like ones", x.falls(0, 3, 0), 0);
        x.lift(0, 1, 6);
        due("place 1", x.falls(0, 3, 0), 2);
        x.lift(2, 3, 4);
        due("places 1 and 2", x.falls(0, 3, 0), 6);
        x.lift(0, 1, 5);
        due("place 2", x.falls(0, 3, 0), 4);
        due("no LABEL", x.falls(0, 0, 0), 0);
        due("one LABEL", x.falls(0, 1, 0), 0);
        due("places 1 to 7", made(LINE9_DOWN + ";rule 1").falls(8, 0, 0), 254);
        due("places of the CHAIN, not of the order", made(LINE9_DOWN + ";rule 1").falls(3, 0, 0), 6);
    }

    private static void lexedOrders() {
        holds(BLOCK, "LEXED: the order is, if each INTERVAL has just one RISING CHAIN, and that is the first.");
        due("one point", made("points 1").lexed(), -1);
        due("points apart", made("points 9").lexed(), -1);
        LabelOrder x = made(SQUARE);
        due("one and the first", x.lexed(), -1);
        x.lift(2, 3, 2);
        due("two rise", x.lexed(), 3);
        x.undo();
        x.lift(1, 3, 0);
        due("none rises", x.lexed(), 3);
        x.undo();
        x.lift(0, 1, 2);
        due("one rises, of like first LABELS not the first", x.lexed(), 3);
        x.undo();
        due("as it was", x.lexed(), -1);
    }

    private static void flagsOfSets() {
        holds(BLOCK, "FLAG of a set of heights (bits 1 .. 8): in how many ways INNER points x of just these HEIGHTS over a, "
                + "one of each, make a ROW (the empty set: 1).");
        LabelOrder x = made(LINE9);
        due("the empty set", x.flag(0, 8, 0, false), 1);
        for (int h = 1; h <= 7; h++) {
            due("height " + h, x.flag(0, 8, 1 << h, false), 1);
        }
        due("height 8 is b's, which is not INNER", x.flag(0, 8, 256, false), 0);
        due("1 to 7", x.flag(0, 8, 254, false), 1);
        due("1 to 8", x.flag(0, 8, 510, false), 0);
        due("the empty set of one point", x.flag(3, 3, 0, false), 1);
        due("the empty set of no INNER points", x.flag(3, 4, 0, false), 1);
        due("another one of no INNER points", x.flag(3, 4, 2, false), 0);
        x = made("points 6;0<1<2<5;0<3<5;0<4<5;3<2");
        due("of one height many", x.flag(0, 5, 2, false), 3);
        due("which make a ROW", x.flag(0, 5, 6, false), 2);
        x = made("points 4;3<0<2;3<1<2");
        due("point 0 is INNER", x.flag(3, 2, 2, false), 2);
        x = made("points 5;0<1<2<4;0<3<4");
        x.relate(1, 3);
        due("HEIGHT is the most steps", x.flag(0, 4, 4, false), 2);
        due("HEIGHT is the most steps", x.flag(0, 4, 2, false), 1);

        holds(BLOCK, "BETA of it: the sum of FLAGS of all its subsets (itself, the empty one, too), those taken off instead "
                + "that have an odd number of heights fewer than it.");
        x = made(DIAMOND);
        due("the empty set", x.flag(0, 4, 0, true), 1);
        due("one height: 3 - 1", x.flag(0, 4, 2, true), 2);
        due("one without points: 0 - 1", x.flag(0, 4, 4, true), -1);
        due("two: 0 - 3 - 0 + 1", x.flag(0, 4, 6, true), -2);
        due("three: 0 - 0 .. + 3 - 1", x.flag(0, 4, 14, true), 2);
        due("eight: of an even number", x.flag(0, 4, 510, true), -2);
        due("eight but the first: all but the empty set have none", x.flag(0, 4, 508, true), -1);
        due("of one point, even", x.flag(2, 2, 6, true), 1);
        due("of one point, odd", x.flag(2, 2, 256, true), -1);
    }

    // ---- promise 23

    private static void intervalBits() {
        holds("Promise 23", "The points in it, as bits.");
        LabelOrder x = made(LINE9);
        due("all", x.interval(0, 8), 511);
        due("the first", x.interval(0, 0), 1);
        due("the last", x.interval(8, 8), 256);
        due("no INNER points", x.interval(7, 8), 384);
        x.drop(4);
        due("but for what is DROPPED", x.interval(0, 8), 511 - 16);
        due("no INNER points then", x.interval(3, 5), 40);
    }

    private static void intervalRefused() {
        holds("Promise 23", "-1; -2: it is none (as everywhere below).");
        for (int n = 1; n <= 9; n++) {
            LabelOrder x = made("points " + n);
            for (int odd : NO_POINTS) {
                due("interval(" + odd + ", 0)", x.interval(odd, 0), -1);
                due("interval(0, " + odd + ")", x.interval(0, odd), -1);
                due("interval(" + odd + ", " + odd + ")", x.interval(odd, odd), -1);
            }
            due("the first that is no point", x.interval(0, n), -1);
            due("the first that is no point", x.interval(n, n), -1);
            due("the last that is one", x.interval(n - 1, n - 1), 1 << n - 1);
            due("points apart", x.interval(0, n - 1), n == 1 ? 1 : -2);
        }
        LabelOrder x = made(LINE9);
        due("the other way round", x.interval(8, 0), -2);
        due("the other way round", x.interval(1, 0), -2);
        x.drop(8);
        due("DROPPED", x.interval(0, 8), -1);
        due("DROPPED", x.interval(8, 8), -1);
        for (LabelOrder none : noOrders()) {
            due("no ORDER", none.interval(0, 0), -1);
            due("no ORDER", none.interval(1, 0), -1);
        }
    }

    // ---- promise 24

    private static void chainsMany() {
        holds("Promise 24", "How many CHAINS, what 0: all, 1: RISING ones, 2: FALLING ones; the steps of 3: the longest, 4: the shortest one.");
        int[][] wants = {{1, 1, 1, 0, 0}, {1, 1, 1, 1, 1}};
        LabelOrder x = made("points 9;0<1<2<3<4<5<6<7<8;rule 1");
        for (int what = 0; what <= 4; what++) {
            due("of one point, what " + what, x.chains(4, 4, what), wants[0][what]);
            due("of no INNER points, what " + what, x.chains(4, 5, what), wants[1][what]);
        }
        due("the longest of all", x.chains(0, 8, 3), 8);
        due("the shortest of one", x.chains(0, 8, 4), 8);
        due("the most CHAINS", made(TWELVE).chains(0, 8, 0), 12);
        due("the longest of the most", made(TWELVE).chains(0, 8, 3), 4);
        due("the shortest of the most", made(TWELVE).chains(0, 8, 4), 4);
        due("the most CHAINS", made(TURNED).chains(8, 0, 0), 12);
        due("the most that rise", made(TURNED).chains(8, 0, 1), 12);
        due("none falls", made(TURNED).chains(8, 0, 2), 0);
        x = made("points 9;0<1<2<3<4<5<6<8;0<7<8");
        due("the longest", x.chains(0, 8, 3), 7);
        due("the shortest", x.chains(0, 8, 4), 2);
        x = made("points 9;0<1<8;0<2<8;0<3<8;0<4<8;0<5<8;0<6<8;0<7<8");
        due("of seven", x.chains(0, 8, 0), 7);
        due("the longest of seven", x.chains(0, 8, 3), 2);
        x = made("points 7;0<1<2<4;0<3<2;4<5<6");
        due("of the longer ones", x.chains(0, 4, 0), 2);
        due("the longest of a shorter one behind it", x.chains(4, 6, 3), 2);
        due("the shortest of a longer one behind it", x.chains(0, 4, 4), 3);
    }

    private static void chainsRefused() {
        holds("Promise 24", "-1 (another what, too); -2.");
        LabelOrder x = made(CUBE);
        for (int what : new int[] {MIN, -2, -1, 5, 6, 32, MAX}) {
            due("chains(0, 7, " + what + ")", x.chains(0, 7, what), -1);
            due("of no INTERVAL: -1 ahead of -2", x.chains(7, 0, what), -1);
        }
        for (int what = 0; what <= 4; what++) {
            due("the other way round", x.chains(7, 0, what), -2);
            due("neither", x.chains(1, 2, what), -2);
            due("no point", x.chains(0, 8, what), -1);
            due("no point", x.chains(8, 0, what), -1);
            for (LabelOrder none : noOrders()) {
                due("no ORDER", none.chains(0, 0, what), -1);
            }
        }
        for (int odd : NO_POINTS) {
            due("chains(" + odd + ", 0, 0)", x.chains(odd, 0, 0), -1);
            due("chains(0, " + odd + ", 0)", x.chains(0, odd, 0), -1);
        }
        x.drop(7);
        due("DROPPED", x.chains(0, 7, 0), -1);
    }

    // ---- promises 25 to 27

    private static void pointsOfChains() {
        holds("Promise 25", "The k-th point (0: a) of the i-th CHAIN (0 on).");
        LabelOrder x = made(LINE9);
        for (int k = 0; k <= 8; k++) {
            due("point(0, 8, 0, " + k + ")", x.point(0, 8, 0, k), k);
        }
        x = made(TWELVE);
        due("the first point of the first", x.point(0, 8, 0, 0), 0);
        due("the last point of the first", x.point(0, 8, 0, 4), 8);
        due("the first point of the last", x.point(0, 8, 11, 0), 0);
        due("the last but one of the last", x.point(0, 8, 11, 3), 7);
        due("the last point of the last", x.point(0, 8, 11, 4), 8);
        due("of one point", x.point(5, 5, 0, 0), 5);
        due("of no INNER points", x.point(7, 8, 0, 1), 8);
    }

    /** Of point(), labelOf() and falls() alike: the answer of the call that `which` tells. */
    private static int likewise(LabelOrder x, int which, int a, int b, int i, int k) {
        return which == 0 ? x.point(a, b, i, k) : which == 1 ? x.labelOf(a, b, i, k) : x.falls(a, b, i);
    }

    private static void refusedLikewise(int which) {
        LabelOrder x = made(TWELVE);
        for (int odd : NO_INDEX) {
            due("CHAIN " + odd, likewise(x, which, 0, 8, odd, 0), -2);
            due("of one point CHAIN " + odd, likewise(x, which, 4, 4, odd, 0), -2);
            if (which < 2) {
                due("place " + odd, likewise(x, which, 0, 8, 0, odd), -2);
                due("of one point place " + odd, likewise(x, which, 4, 4, 0, odd), -2);
            }
        }
        due("CHAIN 1 of one", likewise(x, which, 4, 4, 1, 0), -2);
        due("CHAIN 1 of one", likewise(x, which, 7, 8, 1, 0), -2);
        for (int i = -1; i <= 12; i += 13) {
            due("the other way round", likewise(x, which, 8, 0, i, 0), -2);
            due("neither", likewise(x, which, 1, 2, i, 0), -2);
            due("no point: -1 ahead of -2", likewise(x, which, 0, 9, i, -1), -1);
        }
        for (int odd : NO_POINTS) {
            due("of (" + odd + ", 8)", likewise(x, which, odd, 8, 0, 0), -1);
            due("of (0, " + odd + ")", likewise(x, which, 0, odd, 0, 0), -1);
            due("of (" + odd + ", " + odd + ")", likewise(x, which, odd, odd, 0, 0), -1);
        }
        x.drop(0);
        due("DROPPED", likewise(x, which, 0, 8, 0, 0), -1);
        for (LabelOrder none : noOrders()) {
            due("no ORDER", likewise(none, which, 0, 0, 0, 0), -1);
        }
    }

    private static void pointsRefused() {
        holds("Promise 25", "-1; -2: there is none such, too.");
        refusedLikewise(0);
        due("behind the last point", made(TWELVE).point(0, 8, 0, 5), -2);
        due("behind the last point", made(LINE9).point(0, 8, 0, 9), -2);
        due("behind the only point", made(LINE9).point(3, 3, 0, 1), -2);
        LabelOrder x = made(PENTAGON);
        due("behind the end of the shorter one", x.point(0, 4, 0, 3), -2);
        due("not of the longer one", x.point(0, 4, 1, 3), 4);
        due("behind it", x.point(0, 4, 1, 4), -2);
    }

    private static void labelsOfChains() {
        holds("Promise 26", "The k-th LABEL (0 on) of it likewise.");
        refusedLikewise(1);
        LabelOrder x = made(LINE9 + ";rule 1");
        for (int k = 0; k <= 7; k++) {
            due("labelOf(0, 8, 0, " + k + ")", x.labelOf(0, 8, 0, k), k + 1);
        }
        due("behind the last LABEL", x.labelOf(0, 8, 0, 8), -2);
        due("no LABEL of one point", x.labelOf(4, 4, 0, 0), -2);
        due("one of no INNER points", x.labelOf(4, 5, 0, 0), 5);
        due("behind it", x.labelOf(4, 5, 0, 1), -2);
        x = made(TWELVE);
        due("the last of the last", x.labelOf(0, 8, 11, 3), 8);
        due("behind it", x.labelOf(0, 8, 11, 4), -2);
        x = made(PENTAGON + ";label 2 4 99");
        due("behind the end of the shorter one", x.labelOf(0, 4, 0, 2), -2);
        due("the last of the longer one", x.labelOf(0, 4, 1, 2), 99);
        due("behind it", x.labelOf(0, 4, 1, 3), -2);
    }

    private static void fallsLikewise() {
        holds("Promise 27", "Its FALLS likewise.");
        refusedLikewise(2);
        LabelOrder x = made(TWELVE);
        due("of the first", x.falls(0, 8, 0), 0);
        due("of the last", x.falls(0, 8, 11), 0);
        due("of one point", x.falls(4, 4, 0), 0);
        x = made(CUBE);
        due("the last one falls", x.falls(0, 7, 5), 6);
        due("behind it", x.falls(0, 7, 6), -2);
    }

    // ---- promise 28

    private static void fallingSets() {
        holds("Promise 28", "How many CHAINS have just these FALLS (bits 1 .. 8: set 0 .. 510, even).");
        LabelOrder x = made(LINE9_DOWN + ";rule 1");
        int found = 0;
        for (int set = 0; set <= 510; set += 2) {
            if (set % 256 == 0) {
                x = made(LINE9_DOWN + ";rule 1");
            }
            int got = x.falling(8, 0, set);
            due("falling(" + set + ")", got, set == 254 ? 1 : 0);
            found += got;
        }
        due("of all sets one", found, 1);
        x = made(CUBE);
        int[] wants = {1, 2, 2, 1};
        for (int i = 0; i < 4; i++) {
            due("just these", x.falling(0, 7, 2 * i), wants[i]);
        }
        due("of one point none", x.falling(1, 1, 0), 1);
        due("of one point 1", x.falling(1, 1, 2), 0);
        due("of one point all", x.falling(1, 1, 510), 0);
        due("of all twelve", made(TWELVE).falling(0, 8, 0), 12);
    }

    private static void fallingRefused() {
        holds("Promise 28", "-1; -2.");
        LabelOrder x = made(CUBE);
        for (int set : NO_SET) {
            due("falling(" + set + ")", x.falling(0, 7, set), -1);
            due("of no INTERVAL: -1 ahead of -2", x.falling(7, 0, set), -1);
            due("of one point", x.falling(7, 7, set), -1);
        }
        for (int set : new int[] {0, 2, 508, 510}) {
            due("falling(" + set + ")", x.falling(0, 7, set), set == 0 ? 1 : set == 2 ? 2 : 0);
            due("the other way round", x.falling(7, 0, set), -2);
            due("neither", x.falling(1, 2, set), -2);
            for (LabelOrder none : noOrders()) {
                due("no ORDER", none.falling(0, 0, set), -1);
            }
        }
        for (int odd : NO_POINTS) {
            due("falling(" + odd + ", 7, 0)", x.falling(odd, 7, 0), -1);
            due("falling(0, " + odd + ", 0)", x.falling(0, odd, 0), -1);
        }
        x.drop(0);
        due("DROPPED", x.falling(0, 7, 0), -1);
    }

    // ---- promise 29

    private static void flagSets() {
        holds("Promise 29", "FLAG (beta false), BETA (true) of a set (as for falling()).");
        LabelOrder x = made(CUBE);
        due("the least set", x.flag(0, 7, 0, false), 1);
        due("the least set", x.flag(0, 7, 0, true), 1);
        due("the greatest set", x.flag(0, 7, 510, false), 0);
        due("the greatest set: 6 - 3 - 3 + 1", x.flag(0, 7, 510, true), 1);
        due("FLAG", x.flag(0, 7, 6, false), 6);
        due("BETA", x.flag(0, 7, 6, true), 1);
        due("the other one", x.flag(0, 7, 2, true), 2);
        for (int set = 0; set <= 510; set += 2) {
            if (set % 256 == 0) {
                x = made(LINE9);
            }
            boolean inner = (set & 256) == 0;
            due("FLAG " + set + " of a row", x.flag(0, 8, set, false), inner ? 1 : 0);
        }
        for (int set = 0; set <= 510; set += 2) {
            if (set % 256 == 0) {
                x = made(LINE9);
            }
            int want = set == 0 ? 1 : set == 256 ? -1 : 0;
            due("BETA " + set + " of a row", x.flag(0, 8, set, true), want);
        }
    }

    private static void flagRefused() {
        holds("Promise 29", "Integer.MIN_VALUE: another set, none such, no INTERVAL.");
        LabelOrder x = made(CUBE);
        for (boolean beta : new boolean[] {false, true}) {
            for (int set : NO_SET) {
                due("another set", x.flag(0, 7, set, beta), MIN);
                due("another set", x.flag(3, 3, set, beta), MIN);
            }
            for (int odd : NO_POINTS) {
                due("none such", x.flag(odd, 7, 0, beta), MIN);
                due("none such", x.flag(0, odd, 0, beta), MIN);
            }
            due("none such", x.flag(0, 8, 2, beta), MIN);
            due("no INTERVAL", x.flag(7, 0, 0, beta), MIN);
            due("no INTERVAL", x.flag(1, 2, 0, beta), MIN);
            for (LabelOrder none : noOrders()) {
                due("no ORDER", none.flag(0, 0, 0, beta), MIN);
            }
        }
        x.drop(7);
        due("DROPPED", x.flag(0, 7, 0, false), MIN);
        due("DROPPED", x.flag(7, 7, 0, true), MIN);
    }

    // ---- promise 30

    private static void lexedFirst() {
        holds("Promise 30", "LEXED: NONE; else the first INTERVAL that is not so: 10 times a, and b (the least such).");
        due("NONE", made(CUBE).lexed(), -1);
        due("NONE", made(LINE9).lexed(), -1);
        due("a 0, b 2", made("points 3;0<1<2;label 0 1 1").lexed(), 2);
        due("a 0, b 8", made("points 9;0<1<8;label 0 1 1").lexed(), 8);
        due("a 8, b 0", made("points 9;8<1<0;label 8 1 1").lexed(), 80);
        due("a 8, b 7", made("points 9;8<0<7;label 8 0 1").lexed(), 87);
        due("a 7, b 8", made("points 9;7<0<8;label 7 0 1").lexed(), 78);
        LabelOrder x = made("points 9;8<1<0;label 8 1 1;7<2<3;label 7 2 1");
        due("the least a", x.lexed(), 73);
        x.lift(2, 3, 1);
        due("the other one", x.lexed(), 80);
        x.lift(8, 1, 0);
        due("none then", x.lexed(), -1);
        x = made("points 6;0<1<5;0<1<4;label 0 1 1");
        due("of one a the least b", x.lexed(), 4);
        due("the first INTERVAL, not the smallest", made(LINE9 + ";label 3 4 50").lexed(), 5);
    }

    private static void lexedNone() {
        holds("Promise 30", "-2: no ORDER.");
        for (LabelOrder none : noOrders()) {
            due("lexed()", none.lexed(), -2);
        }
        due("one point", made("points 1").lexed(), -1);
    }
}

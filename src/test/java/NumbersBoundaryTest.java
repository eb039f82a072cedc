import java.math.BigInteger;

/** The boundary cases of promises 31 to 39 and of numbers, faces, holes and shells (Term 3). */
public final class NumbersBoundaryTest extends Cases {
    private static final String TERM = "Term 3";
    private static final String BLOCK = "Term 3 block";
    private static final int[] PRIMES = {2, 3, 5, 7};
    private static final int[] NO_PRIMES = {MIN, -7, -3, -2, -1, 0, 1, 4, 6, 8, 9, 10, 11, 13, 32, MAX};
    /** Seven points apart between 0 and 8. */
    private static final String SEVEN = "points 9;0<1<8;0<2<8;0<3<8;0<4<8;0<5<8;0<6<8;0<7<8";
    private static final String APART = "points 6;0<1<2<5;0<3<4<5";

    public static void main(String[] args) {
        moebiusNumbers();
        zetaNumbers();
        stepNumbers();
        facesOfDimension();
        holesOfDimension();
        shelledChains();
        creaseOfChain();
        moebiusCall();
        whitneyCall();
        whitneyRefused();
        zetaCall();
        zetaTooMuch();
        stepsCall();
        facesCall();
        facesRefused();
        holesCall();
        holesRefused();
        shelledCall();
        shelledRefused();
        creaseCall();
        creasedCall();
        end(promises(31, 39, TERM, BLOCK));
    }

    // ---- Term 3

    private static void moebiusNumbers() {
        holds(TERM, "MOEBIUS of (a, b): 1, if a is b; else less all MOEBIUS of (a, x), x in it but b.");
        LabelOrder x = made(LINE9);
        due("a is b", x.moebius(0, 0), 1);
        due("a is b", x.moebius(8, 8), 1);
        due("no INNER points", x.moebius(7, 8), -1);
        due("one INNER point", x.moebius(6, 8), 0);
        due("seven INNER points in a row", x.moebius(0, 8), 0);
        due("seven INNER points apart", made(SEVEN).moebius(0, 8), 6);
        due("twelve CHAINS", made(TWELVE).moebius(0, 8), 2);
        due("four over three", made("points 9;0<1<5<8;0<2<5;0<3<5;0<4<5;1<6<8;2<6;3<6;4<6;1<7<8;2<7;3<7;4<7").moebius(0, 8), -6);
    }

    private static void zetaNumbers() {
        holds(TERM, "ZETA of n (1 .. 1000): how many rows of n and 1 points, the first a, the last b, each BELOW the next one or like it.");
        LabelOrder x = made(LINE9);
        due("a is b, n 1", x.zeta(3, 3, 1), 1);
        due("a is b, n 1000", x.zeta(3, 3, 1000), 1);
        due("no INNER points, n 1", x.zeta(3, 4, 1), 1);
        due("no INNER points, n 2", x.zeta(3, 4, 2), 2);
        due("no INNER points, n 1000", x.zeta(3, 4, 1000), 1000);
        due("n 2: the points in it", x.zeta(0, 8, 2), 9);
        due("n 2: the points in it", made(SEVEN).zeta(0, 8, 2), 9);
        due("n 1000", made(SEVEN).zeta(0, 8, 1000), 1000L + 7L * 1000 * 999 / 2);
    }

    private static void stepNumbers() {
        holds(TERM, "STEPS of k: ROWS from a to b of k steps.");
        LabelOrder x = made(LINE9);
        int[] wants = {0, 1, 7, 21, 35, 35, 21, 7, 1, 0};
        for (int k = 0; k <= 9; k++) {
            due("steps(0, 8, " + k + ")", x.steps(0, 8, k), wants[k]);
        }
        due("a is b, k 0", x.steps(4, 4, 0), 1);
        due("a is b, k 1", x.steps(4, 4, 1), 0);
        due("no INNER points, k 0", x.steps(4, 5, 0), 0);
        due("no INNER points, k 1", x.steps(4, 5, 1), 1);
        due("no INNER points, k 2", x.steps(4, 5, 2), 0);
    }

    private static void facesOfDimension() {
        holds(BLOCK, "FACES of dimension d of (a, b), a BELOW b: ROWS of d and 1 INNER points (d NONE: 1, none).");
        LabelOrder x = made(LINE9);
        int[] wants = {1, 7, 21, 35, 35, 21, 7, 1, 0, 0};
        for (int d = -1; d <= 8; d++) {
            due("faces(0, 8, " + d + ")", x.faces(0, 8, d), wants[d + 1]);
        }
        due("no INNER points, d NONE", x.faces(4, 5, -1), 1);
        due("no INNER points, d 0", x.faces(4, 5, 0), 0);
        due("one INNER point, d 0", x.faces(4, 6, 0), 1);
        due("one INNER point, d 1", x.faces(4, 6, 1), 0);
        due("seven apart, d 0", made(SEVEN).faces(0, 8, 0), 7);
        due("seven apart, d 1", made(SEVEN).faces(0, 8, 1), 0);
    }

    private static void holesOf(String text, int a, int b, int[] wants) {
        for (int p : PRIMES) {
            LabelOrder x = made(text);
            for (int d = -1; d <= 8; d++) {
                due("holes(" + a + ", " + b + ", " + d + ", " + p + ") of " + text, x.holes(a, b, d, p),
                        d + 1 < wants.length ? wants[d + 1] : 0);
            }
        }
    }

    private static void holesOfDimension() {
        holds(BLOCK, "HOLES of dimension d modulo p (2, 3, 5, 7): FACES of it less the rank of the map from them to FACES of "
                + "dimension d less 1, less the rank of the map to them from those of d and 1 (a FACE goes to all that have "
                + "one point fewer, the signs in turn by which one is left out, + for the lowest); of NONE the first rank is 0.");
        holesOf(LINE9, 0, 1, new int[] {1});
        holesOf(LINE9, 0, 2, new int[] {0});
        holesOf(LINE9, 0, 8, new int[] {0});
        holesOf(SEVEN, 0, 8, new int[] {0, 6});
        holesOf(TWELVE, 0, 8, new int[] {0, 0, 0, 2});
        holesOf(CUBE, 0, 7, new int[] {0, 0, 1});
        holesOf("points 9;0<1<5<8;0<2<5;0<3<5;0<4<5;1<6<8;2<6;3<6;4<6;1<7<8;2<7;3<7;4<7", 0, 8, new int[] {0, 0, 6});
        holesOf(APART, 0, 5, new int[] {0, 1});
        holesOf("points 3;1<0<2", 1, 2, new int[] {0});
        // Numbers run against the order, so that signs by numbers and signs by what is lowest go apart.
        holesOf("points 9;8<7<4<2<0;8<6<4<1<0;8<5<4;7<3<2;6<3<1;5<3", 8, 0, new int[] {0, 0, 0, 2});
        holesOf("points 8;3<7<2<5;3<0<2;3<6<4<5;7<4;0<1<5;6<1", 3, 5, new int[] {0, 0, 1});
    }

    private static void shelledChains() {
        holds(BLOCK, "SHELLED, a BELOW b: for each CHAIN j behind the first (as they stand) and each i ahead of it there is a k "
                + "ahead of j that has all points of j but one, and all points that i and j both have.");
        due("one CHAIN", made(LINE9).shelled(0, 8), -1);
        due("no INNER points", made(LINE9).shelled(0, 1), -1);
        due("no two share a side", made(APART).shelled(0, 5), 1);
        due("seven of one INNER point each", made(SEVEN).shelled(0, 8), -1);
        due("twelve", made(TWELVE).shelled(0, 8), -1);
        LabelOrder x = made(PENTAGON);
        due("j has two points that i lacks", x.shelled(0, 4), 1);
        x.lift(0, 3, 1);
        due("the shorter one behind has but one", x.shelled(0, 4), -1);
        x = made("points 8;0<1<2<7;0<3<2;0<3<4<7;0<5<4;0<5<6<7;rule 0");
        due("each on the one ahead", x.shelled(0, 7), -1);
        // (2, 4, 5), (2, 4, 6), (1, 4, 5), (1, 3, 5), then (1, 3, 6), whose only side lacks the 6 that it has of the second.
        x = made("points 8;0<1<3<5<7;0<2<4<5;1<4;3<6<7;4<6;label 1 3 1;label 1 4 1;label 3 5 1;label 3 6 2;label 4 6 3");
        due("no k has what i and j both have", x.shelled(0, 7), 4);
        x.lift(4, 6, 1);
        due("a k that has it is ahead then", x.shelled(0, 7), -1);
    }

    private static void creaseOfChain() {
        holds(BLOCK, "CREASE of a CHAIN: its points without which an earlier CHAIN has all of it.");
        due("the first has none", made(CUBE).crease(0, 7, 0), 0);
        due("one", made(CUBE).crease(0, 7, 1), 32);
        due("two", made(CUBE).crease(0, 7, 5), 80);
        due("none: two points are lacking", made(APART).crease(0, 5, 1), 0);
        LabelOrder x = made(PENTAGON);
        due("the longer one behind", x.crease(0, 4, 1), 0);
        x.lift(0, 3, 1);
        due("the shorter one behind", x.crease(0, 4, 1), 8);
        due("three", made(TWELVE).crease(0, 8, 11), 1 << 3 | 1 << 5 | 1 << 7);
        x = made("points 4;3<0<2;3<1<2;label 3 0 5");
        due("point 0", x.crease(3, 2, 1), 1);
        due("of the first none", x.crease(3, 2, 0), 0);
    }

    // ---- promises 31 and 32

    private static void moebiusCall() {
        holds("Promise 31", "MOEBIUS.");
        LabelOrder x = made(SEVEN);
        due("the most", x.moebius(0, 8), 6);
        x.drop(7);
        due("of those that are there", x.moebius(0, 8), 5);

        holds("Promise 31", "Integer.MIN_VALUE: none such, no INTERVAL.");
        for (int odd : NO_POINTS) {
            due("none such", x.moebius(odd, 8), MIN);
            due("none such", x.moebius(0, odd), MIN);
            due("none such", x.moebius(odd, odd), MIN);
        }
        due("DROPPED", x.moebius(0, 7), MIN);
        due("DROPPED", x.moebius(7, 7), MIN);
        due("the other way round", x.moebius(8, 0), MIN);
        due("neither", x.moebius(1, 2), MIN);
        due("no point of four", made("points 4;0<1").moebius(0, 4), MIN);
        for (LabelOrder none : noOrders()) {
            due("no ORDER", none.moebius(0, 0), MIN);
        }
    }

    private static void whitneyCall() {
        holds("Promise 32", "Of all points that are a or a is BELOW, of HEIGHT k over a (0 on), what 0: how many, 1: the sum of MOEBIUS of (a, x).");
        LabelOrder x = made(LINE9);
        for (int k = 0; k <= 8; k++) {
            due("whitney(0, " + k + ", 0)", x.whitney(0, k, 0), 1);
            due("whitney(0, " + k + ", 1)", x.whitney(0, k, 1), k == 0 ? 1 : k == 1 ? -1 : 0);
        }
        due("above the highest", x.whitney(0, 9, 0), 0);
        due("above the highest", x.whitney(0, 9, 1), 0);
        for (int k : new int[] {31, 32, 33, MAX - 1, MAX}) {
            due("whitney(0, " + k + ", 0)", x.whitney(0, k, 0), 0);
            due("whitney(0, " + k + ", 1)", x.whitney(0, k, 1), 0);
        }
        due("the highest point alone", x.whitney(8, 0, 0), 1);
        due("the highest point alone", x.whitney(8, 1, 0), 0);
        x = made("points 9;0<1;0<2;0<3;0<4;0<5;0<6;0<7;0<8");
        due("eight", x.whitney(0, 1, 0), 8);
        due("eight", x.whitney(0, 1, 1), -8);
        due("a itself", x.whitney(0, 0, 1), 1);
        due("not of points beside a", x.whitney(1, 0, 0), 1);
        x.drop(8);
        due("of those that are there", x.whitney(0, 1, 0), 7);
    }

    private static void whitneyRefused() {
        holds("Promise 32", "Integer.MIN_VALUE: others, none such, k below 0.");
        LabelOrder x = made(CUBE);
        for (int what : new int[] {MIN, -2, -1, 2, 3, 32, MAX}) {
            due("whitney(0, 0, " + what + ")", x.whitney(0, 0, what), MIN);
        }
        for (int what = 0; what <= 1; what++) {
            for (int odd : NO_POINTS) {
                due("none such", x.whitney(odd, 0, what), MIN);
            }
            due("none such", x.whitney(8, 0, what), MIN);
            due("the last one", x.whitney(7, 0, what), 1);
            for (int k : new int[] {MIN, -2, -1}) {
                due("k below 0", x.whitney(0, k, what), MIN);
            }
            for (LabelOrder none : noOrders()) {
                due("no ORDER", none.whitney(0, 0, what), MIN);
            }
        }
        x.drop(7);
        due("DROPPED", x.whitney(7, 0, 0), MIN);
    }

    // ---- promises 33 and 34

    private static void zetaCall() {
        holds("Promise 33", "ZETA.");
        LabelOrder x = made(CUBE);
        due("n 1", x.zeta(0, 7, 1), 1);
        due("n 1000", x.zeta(0, 7, 1000), 1000000000L);

        holds("Promise 33", "-1; -2; -3: it is more than a long can hold.");
        for (int n : new int[] {MIN, -1000, -1, 0, 1001, 1002, 65536 + 1, MAX}) {
            due("zeta(0, 7, " + n + ")", x.zeta(0, 7, n), -1);
            due("of no INTERVAL: -1 ahead of -2", x.zeta(7, 0, n), -1);
            due("of one point", x.zeta(7, 7, n), -1);
        }
        for (int odd : NO_POINTS) {
            due("zeta(" + odd + ", 7, 1)", x.zeta(odd, 7, 1), -1);
            due("zeta(0, " + odd + ", 1000)", x.zeta(0, odd, 1000), -1);
        }
        for (int n : new int[] {1, 1000}) {
            due("the other way round", x.zeta(7, 0, n), -2);
            due("neither", x.zeta(1, 2, n), -2);
            due("none such", x.zeta(0, 8, n), -1);
            for (LabelOrder none : noOrders()) {
                due("no ORDER", none.zeta(0, 0, n), -1);
            }
        }
        x.drop(7);
        due("DROPPED", x.zeta(0, 7, 1), -1);
    }

    /** Rows of n and 1 points in a row of nine: n and 7 over 8. */
    private static BigInteger longest(int n) {
        BigInteger ways = BigInteger.ONE;
        for (int k = 1; k <= 8; k++) {
            ways = ways.multiply(BigInteger.valueOf(n + k - 1)).divide(BigInteger.valueOf(k));
        }
        return ways;
    }

    private static void zetaTooMuch() {
        holds("Promise 33", "-3: it is more than a long can hold.");
        int last = 1;
        while (longest(last + 1).bitLength() <= 63) {
            last++;
        }
        due("there is such an n", last > 1 && last < 1000, true);
        for (String text : new String[] {LINE9, LINE9_DOWN}) {
            LabelOrder x = made(text);
            int a = text.equals(LINE9) ? 0 : 8;
            for (int n : new int[] {1, 2, 8, 9, last - 1, last}) {
                due("zeta of n " + n, x.zeta(a, 8 - a, n), longest(n).longValueExact());
            }
            for (int n : new int[] {last + 1, last + 2, 999, 1000}) {
                due("zeta of n " + n, x.zeta(a, 8 - a, n), -3);
            }
            due("n that can't be: -1", x.zeta(a, 8 - a, 1001), -1);
        }
        LabelOrder x = made("points 9;0<1<2<3<4<5<6<8;2<7<4");
        BigInteger most = BigInteger.ZERO;
        BigInteger ways = BigInteger.ONE;
        for (int k = 0; k <= 8; k++) {
            most = most.add(ways.multiply(BigInteger.valueOf(x.steps(0, 8, k))));
            ways = ways.multiply(BigInteger.valueOf(1000 - k)).divide(BigInteger.valueOf(k + 1));
        }
        due("seven steps at most: a long holds it", x.zeta(0, 8, 1000), most.longValueExact());
    }

    private static void stepsCall() {
        holds("Promise 34", "STEPS of k (0 on).");
        LabelOrder x = made(CUBE);
        int[] wants = {0, 1, 6, 6, 0};
        for (int k = 0; k < wants.length; k++) {
            due("steps(0, 7, " + k + ")", x.steps(0, 7, k), wants[k]);
        }
        for (int k : new int[] {8, 9, 10, 31, 32, 33, 64, MAX - 1, MAX}) {
            due("steps(0, 7, " + k + ")", x.steps(0, 7, k), 0);
            due("steps(3, 3, " + k + ")", x.steps(3, 3, k), 0);
        }

        holds("Promise 34", "-1 (k below 0, too); -2.");
        for (int k : new int[] {MIN, -9, -2, -1}) {
            due("steps(0, 7, " + k + ")", x.steps(0, 7, k), -1);
            due("of no INTERVAL: -1 ahead of -2", x.steps(7, 0, k), -1);
            due("of one point", x.steps(7, 7, k), -1);
        }
        for (int odd : NO_POINTS) {
            due("steps(" + odd + ", 7, 0)", x.steps(odd, 7, 0), -1);
            due("steps(0, " + odd + ", 0)", x.steps(0, odd, 0), -1);
        }
        due("the other way round", x.steps(7, 0, 0), -2);
        due("neither", x.steps(1, 2, 1), -2);
        due("neither, k MAX", x.steps(1, 2, MAX), -2);
        due("none such", x.steps(0, 8, 0), -1);
        x.drop(7);
        due("DROPPED", x.steps(0, 7, 1), -1);
        for (LabelOrder none : noOrders()) {
            due("no ORDER", none.steps(0, 0, 0), -1);
        }
    }

    // ---- promises 35 and 36

    private static void facesCall() {
        holds("Promise 35", "FACES of dimension d (NONE on).");
        LabelOrder x = made(CUBE);
        int[] wants = {1, 6, 6, 0};
        for (int d = -1; d < 3; d++) {
            due("faces(0, 7, " + d + ")", x.faces(0, 7, d), wants[d + 1]);
        }
        for (int d : new int[] {6, 7, 8, 9, 31, 32, MAX - 2, MAX - 1, MAX}) {
            due("faces(0, 7, " + d + ")", x.faces(0, 7, d), 0);
        }
    }

    private static void facesRefused() {
        holds("Promise 35", "-1 (d below NONE, too); -2 (a is b, too).");
        LabelOrder x = made(CUBE);
        for (int d : new int[] {MIN, MIN + 1, -9, -3, -2}) {
            due("faces(0, 7, " + d + ")", x.faces(0, 7, d), -1);
            due("of no INTERVAL: -1 ahead of -2", x.faces(7, 0, d), -1);
            due("a is b: -1 ahead of -2", x.faces(3, 3, d), -1);
        }
        for (int d : new int[] {-1, 0, 7, MAX}) {
            due("a is b", x.faces(3, 3, d), -2);
            due("the other way round", x.faces(7, 0, d), -2);
            due("neither", x.faces(1, 2, d), -2);
            due("none such", x.faces(0, 8, d), -1);
            due("none such, twice", x.faces(8, 8, d), -1);
            for (int odd : NO_POINTS) {
                due("faces(" + odd + ", 7)", x.faces(odd, 7, d), -1);
                due("faces(0, " + odd + ")", x.faces(0, odd, d), -1);
            }
            for (LabelOrder none : noOrders()) {
                due("no ORDER", none.faces(0, 1, d), -1);
                due("no ORDER", none.faces(0, 0, d), -1);
            }
        }
        x.drop(7);
        due("DROPPED", x.faces(0, 7, 0), -1);
        due("DROPPED", x.faces(7, 7, 0), -1);
    }

    private static void holesCall() {
        holds("Promise 36", "HOLES.");
        LabelOrder x = made(SEVEN);
        for (int p : PRIMES) {
            due("d NONE", x.holes(0, 8, -1, p), 0);
            due("d 0", x.holes(0, 8, 0, p), 6);
            due("d NONE of no INNER points", x.holes(0, 1, -1, p), 1);
            for (int d : new int[] {1, 5, 6, 7, 8, 9, 31, 32, MAX - 2, MAX - 1, MAX}) {
                due("d " + d, x.holes(0, 8, d, p), 0);
                due("d " + d + " of no INNER points", x.holes(0, 1, d, p), 0);
            }
        }
    }

    private static void holesRefused() {
        holds("Promise 36", "-1 (another p, too); -2 (a is b, too).");
        LabelOrder x = made(CUBE);
        for (int p : NO_PRIMES) {
            due("p " + p, x.holes(0, 7, 0, p), -1);
            due("p " + p + ", d NONE", x.holes(0, 7, -1, p), -1);
            due("p " + p + ", d MAX", x.holes(0, 7, MAX, p), -1);
            due("of no INTERVAL: -1 ahead of -2", x.holes(7, 0, 0, p), -1);
            due("a is b: -1 ahead of -2", x.holes(3, 3, 0, p), -1);
        }
        for (int p : PRIMES) {
            for (int d : new int[] {MIN, -3, -2}) {
                due("a number that can't be: d " + d, x.holes(0, 7, d, p), -1);
            }
            due("a is b", x.holes(3, 3, 0, p), -2);
            due("a is b, d NONE", x.holes(3, 3, -1, p), -2);
            due("a is b, d MAX", x.holes(3, 3, MAX, p), -2);
            due("the other way round", x.holes(7, 0, 0, p), -2);
            due("neither", x.holes(1, 2, 0, p), -2);
            due("none such", x.holes(0, 8, 0, p), -1);
            due("none such, twice", x.holes(8, 8, 0, p), -1);
            for (int odd : NO_POINTS) {
                due("holes(" + odd + ", 7)", x.holes(odd, 7, 0, p), -1);
                due("holes(0, " + odd + ")", x.holes(0, odd, 0, p), -1);
            }
            for (LabelOrder none : noOrders()) {
                due("no ORDER", none.holes(0, 1, 0, p), -1);
            }
        }
        x.drop(7);
        due("DROPPED", x.holes(0, 7, 0, 2), -1);
    }

    // ---- promises 37 to 39

    private static void shelledCall() {
        holds("Promise 37", "SHELLED: NONE; else the first CHAIN j for which it is not so.");
        due("NONE", made(CUBE).shelled(0, 7), -1);
        due("the second", made(APART).shelled(0, 5), 1);
        due("the third", made("points 7;rule 1;0<1<2<6;0<1<3<6;0<4<5<6").shelled(0, 6), 2);
        due("the last of many", made("points 9;rule 1;0<1<4<8;0<1<5<8;0<2<4;0<2<5;0<3<6<8").shelled(0, 8), 4);
        due("the first of two such", made("points 8;rule 1;0<1<2<7;0<3<4<7;0<5<6<7").shelled(0, 7), 1);
    }

    private static void shelledRefused() {
        holds("Promise 37", "-3: none such, no ORDER; -2: no INTERVAL, a is b.");
        LabelOrder x = made(CUBE);
        for (int odd : NO_POINTS) {
            due("shelled(" + odd + ", 7)", x.shelled(odd, 7), -3);
            due("shelled(0, " + odd + ")", x.shelled(0, odd), -3);
            due("shelled(" + odd + ", " + odd + ")", x.shelled(odd, odd), -3);
        }
        due("none such", x.shelled(0, 8), -3);
        due("none such", x.shelled(8, 0), -3);
        due("the other way round", x.shelled(7, 0), -2);
        due("neither", x.shelled(1, 2), -2);
        for (int p = 0; p < 8; p++) {
            due("a is b", x.shelled(p, p), -2);
        }
        x.drop(7);
        due("DROPPED", x.shelled(0, 7), -3);
        due("DROPPED", x.shelled(7, 7), -3);
        for (LabelOrder none : noOrders()) {
            due("no ORDER", none.shelled(0, 1), -3);
            due("no ORDER", none.shelled(0, 0), -3);
        }
    }

    private static void creaseCall() {
        holds("Promise 38", "CREASE of the i-th CHAIN, as bits.");
        LabelOrder x = made(TWELVE);
        due("of the first", x.crease(0, 8, 0), 0);
        due("of the last", x.crease(0, 8, 11), 168);
        due("of the only one", x.crease(0, 1, 0), 0);

        holds("Promise 38", "-1; -2 (a is b, there is none such, too).");
        for (int i : new int[] {MIN, -2, -1, 12, 13, 32, MAX}) {
            due("crease(0, 8, " + i + ")", x.crease(0, 8, i), -2);
            due("crease(0, 1, " + i + ")", x.crease(0, 1, i), -2);
            due("no point: -1 ahead of -2", x.crease(0, 9, i), -1);
        }
        due("crease(0, 1, 1)", x.crease(0, 1, 1), -2);
        for (int i = -1; i <= 1; i++) {
            due("a is b", x.crease(3, 3, i), -2);
            due("the other way round", x.crease(8, 0, i), -2);
            due("neither", x.crease(1, 2, i), -2);
        }
        for (int odd : NO_POINTS) {
            due("crease(" + odd + ", 8, 0)", x.crease(odd, 8, 0), -1);
            due("crease(0, " + odd + ", 0)", x.crease(0, odd, 0), -1);
            due("crease(" + odd + ", " + odd + ", 0)", x.crease(odd, odd, 0), -1);
        }
        x.drop(8);
        due("DROPPED", x.crease(0, 8, 0), -1);
        due("DROPPED", x.crease(8, 8, 0), -1);
        for (LabelOrder none : noOrders()) {
            due("no ORDER", none.crease(0, 1, 0), -1);
            due("no ORDER", none.crease(0, 0, 0), -1);
        }
    }

    private static void creasedCall() {
        holds("Promise 39", "How many CHAINS have a CREASE of k points (0 on).");
        LabelOrder x = made(TWELVE);
        int[] wants = {1, 4, 5, 2, 0};
        for (int k = 0; k < wants.length; k++) {
            due("creased(0, 8, " + k + ")", x.creased(0, 8, k), wants[k]);
        }
        for (int k : new int[] {8, 9, 10, 32, MAX}) {
            due("creased(0, 8, " + k + ")", x.creased(0, 8, k), 0);
        }
        due("no INNER points", x.creased(0, 1, 0), 1);
        due("no INNER points", x.creased(0, 1, 1), 0);

        holds("Promise 39", "-1 (k below 0, too); -2 (a is b, too).");
        for (int k : new int[] {MIN, -2, -1}) {
            due("creased(0, 8, " + k + ")", x.creased(0, 8, k), -1);
            due("of no INTERVAL: -1 ahead of -2", x.creased(8, 0, k), -1);
            due("a is b: -1 ahead of -2", x.creased(3, 3, k), -1);
        }
        for (int k : new int[] {0, 1, MAX}) {
            due("a is b", x.creased(3, 3, k), -2);
            due("the other way round", x.creased(8, 0, k), -2);
            due("neither", x.creased(1, 2, k), -2);
            due("none such", x.creased(0, 9, k), -1);
            due("none such, twice", x.creased(9, 9, k), -1);
        }
        for (int odd : NO_POINTS) {
            due("creased(" + odd + ", 8, 0)", x.creased(odd, 8, 0), -1);
            due("creased(0, " + odd + ", 0)", x.creased(0, odd, 0), -1);
        }
        x.drop(8);
        due("DROPPED", x.creased(0, 8, 0), -1);
        for (LabelOrder none : noOrders()) {
            due("no ORDER", none.creased(0, 1, 0), -1);
            due("no ORDER", none.creased(0, 0, 0), -1);
        }
    }
}

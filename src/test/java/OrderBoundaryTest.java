/** The boundary cases of promises 13 to 22 and of points, what is below and labels (Term 1). */
public final class OrderBoundaryTest extends Cases {
    private static final String TERM = "Term 1";

    public static void main(String[] args) {
        pointsOneToNine();
        belowAsTold();
        dropped();
        covers();
        labelRules();
        ofBits();
        ofThrows();
        labelOfEdge();
        labelRefused();
        heightMost();
        heightNone();
        joins();
        joinRefused();
        meets();
        meetRefused();
        kindBounded();
        kindEven();
        kindLattice();
        kindDistributive();
        kindModular();
        kindLine();
        kindNone();
        widths();
        ideals();
        extensions();
        extensionPoints();
        end(promises(13, 22, TERM));
    }

    // ---- Term 1

    private static void pointsOneToNine() {
        holds(TERM, "POINTS 0 .. (1 .. 9), of which some may be DROPPED: what is told is of those that are there.");
        for (int n = 1; n <= 9; n++) {
            LabelOrder x = made("points " + n);
            due("count(0)", x.count(0), n);
            due("the first", x.height(0), 0);
            due("ahead of the first", x.height(-1), -1);
            due("the last", x.height(n - 1), 0);
            due("behind the last", x.height(n), -1);
            due("width()", x.width(), n);
            due("count(1)", x.count(1), (1 << n) - 1);
        }
        LabelOrder x = made(LINE9);
        x.drop(0);
        x.drop(4);
        x.drop(8);
        due("count(1)", x.count(1), 0b011101110);
        due("count(2)", x.count(2), 15);
        due("count(3)", x.count(3), 5);
        due("ideals()", x.ideals(), 7);
        due("height(7)", x.height(7), 5);
    }

    private static void belowAsTold() {
        holds(TERM, "a is BELOW b as told (what is below something below is below, too; nothing is below itself)");
        LabelOrder x = made("points 9;7<8;6<7;5<6;4<5;3<4;2<3;1<2;0<1");
        for (int p = 0; p <= 8; p++) {
            due("of(" + p + ", 0)", x.of(p, 0), 511 & ~((2 << p) - 1));
            due("of(" + p + ", 1)", x.of(p, 1), (1 << p) - 1);
        }
        due("count(2)", x.count(2), 36);
        x = made("points 4;0<1;2<3");
        due("count(2)", x.count(2), 2);
        x.relate(1, 2);
        due("of(0, 0) by relate", x.of(0, 0), 14);
        due("of(3, 1) by relate", x.of(3, 1), 7);
    }

    private static void dropped() {
        holds(TERM, "of others nothing is told by a point that is DROPPED, but those below it stay below those that it was below.");
        LabelOrder x = made("points 5;0<2;1<2;2<3;2<4");
        x.drop(2);
        due("of(0, 0)", x.of(0, 0), 24);
        due("of(1, 0)", x.of(1, 0), 24);
        due("of(3, 1)", x.of(3, 1), 3);
        due("of(0, 2)", x.of(0, 2), 24);
        due("of(4, 3)", x.of(4, 3), 3);
        due("count(2)", x.count(2), 4);
        due("count(3)", x.count(3), 4);
        due("height(3)", x.height(3), 1);
        due("relate back", x.relate(3, 0), -2);
        x = made("points 3;0<1;2<1");
        x.drop(1);
        due("two below one are not below one another", x.count(2), 0);
        x = made(LINE9);
        for (int p = 1; p <= 7; p++) {
            x.drop(p);
        }
        due("of(0, 0)", x.of(0, 0), 256);
        due("of(0, 2)", x.of(0, 2), 256);
    }

    private static void covers() {
        holds(TERM, "b COVERS a, if a is BELOW b and nothing is BELOW b that a is BELOW.");
        LabelOrder x = made("points 3;0<2");
        due("nothing between", x.of(0, 2), 4);
        x.relate(0, 1);
        due("1 is not BELOW 2", x.of(0, 2), 6);
        x.relate(1, 2);
        due("one between", x.of(0, 2), 2);
        due("one between", x.of(2, 3), 2);
        x.undo();
        due("none again", x.of(0, 2), 6);
        x = made("points 3;0<1<2");
        x.drop(1);
        due("the one between is DROPPED", x.of(0, 2), 4);
        due("nothing covers itself", made("points 1").of(0, 2), 0);
    }

    private static void labelRules() {
        holds(TERM, "LABEL of an edge (a, b), b COVERING a, by the RULE: 0 as told for the two (0 without), 1 b, "
                + "2 the greater number of both, 3 how far both numbers are apart.");
        LabelOrder x = made("points 9;0<8;label 0 8 99;label 8 0 3");
        due("rule 0: as told", x.label(0, 8), 99);
        x.rule(1);
        due("rule 1", x.label(0, 8), 8);
        x.rule(2);
        due("rule 2", x.label(0, 8), 8);
        x.rule(3);
        due("rule 3: 8 is the most", x.label(0, 8), 8);
        x = made("points 9;8<0;label 0 8 99");
        due("rule 0: 0 without", x.label(8, 0), 0);
        x.rule(1);
        due("rule 1", x.label(8, 0), 0);
        x.rule(2);
        due("rule 2", x.label(8, 0), 8);
        x.rule(3);
        due("rule 3", x.label(8, 0), 8);
        x = made("points 9;7<8;rule 3");
        due("rule 3: 1 is the least", x.label(7, 8), 1);
        x = made("points 2;0<1;label 0 1 0;rule 0");
        due("rule 0: 0 told", x.label(0, 1), 0);
    }

    // ---- promise 13

    private static void ofBits() {
        holds("Promise 13", "Of a point what 0: BELOW which it is, 1: what is BELOW it, 2: what COVERS it, 3: what it COVERS, as bits.");
        LabelOrder x = made(LINE9);
        due("of(0, 0)", x.of(0, 0), 510);
        due("of(0, 1)", x.of(0, 1), 0);
        due("of(0, 2)", x.of(0, 2), 2);
        due("of(0, 3)", x.of(0, 3), 0);
        due("of(8, 0)", x.of(8, 0), 0);
        due("of(8, 1)", x.of(8, 1), 255);
        due("of(8, 2)", x.of(8, 2), 0);
        due("of(8, 3)", x.of(8, 3), 128);
        for (int what = 0; what <= 3; what++) {
            due("of one point", made("points 1").of(0, what), 0);
        }
        x = made("points 9;8<0;8<1;8<2;8<3;8<4;8<5;8<6;8<7");
        due("of(8, 0)", x.of(8, 0), 255);
        due("of(8, 2)", x.of(8, 2), 255);
        due("of(7, 3)", x.of(7, 3), 256);
    }

    private static void ofThrows() {
        holds("Promise 13", "NoSuchElementException: none such, another what.");
        for (int n = 1; n <= 9; n++) {
            LabelOrder x = made("points " + n);
            due("the last point", throwsOf(x, n - 1, 3), false);
            due("the first that is none", throwsOf(x, n, 0), true);
            for (int what = 0; what <= 3; what++) {
                due("of(0, " + what + ")", throwsOf(x, 0, what), false);
                for (int odd : NO_POINTS) {
                    due("of(" + odd + ", " + what + ")", throwsOf(x, odd, what), true);
                }
            }
            for (int what : new int[] {MIN, -2, -1, 4, 5, 32, MAX}) {
                due("of(0, " + what + ")", throwsOf(x, 0, what), true);
            }
        }
        LabelOrder x = made("points 2;0<1");
        x.drop(0);
        due("DROPPED", throwsOf(x, 0, 0), true);
        due("the other one", x.of(1, 1), 0);
        x.undo();
        due("there again", x.of(0, 0), 2);
        for (LabelOrder none : noOrders()) {
            due("no ORDER", throwsOf(none, 0, 0), true);
        }
        stays("of(9, 0)", OrderBoundaryTest::busy, o -> asInt(throwsOf(o, 9, 0)), 1);
        stays("of(0, 4)", OrderBoundaryTest::busy, o -> asInt(throwsOf(o, 0, 4)), 1);
    }

    // ---- promise 14

    private static void labelOfEdge() {
        holds("Promise 14", "LABEL of an edge.");
        LabelOrder x = made("points 3;0<1<2;label 0 1 99;label 1 2 0");
        due("the greatest", x.label(0, 1), 99);
        due("the least", x.label(1, 2), 0);
    }

    private static void labelRefused() {
        holds("Promise 14", "-1; -2: b does not COVER a.");
        LabelOrder x = made("points 5;0<1<2;label 0 2 5;label 1 0 5;label 3 4 5");
        due("one between", x.label(0, 2), -2);
        due("the other way round", x.label(1, 0), -2);
        due("neither is BELOW the other", x.label(3, 4), -2);
        due("one and the same", x.label(1, 1), -2);
        for (int r = 1; r <= 3; r++) {
            x.rule(r);
            due("by another RULE", x.label(0, 2), -2);
        }
        for (int odd : NO_POINTS) {
            due("label(" + odd + ", 1)", x.label(odd, 1), -1);
            due("label(0, " + odd + ")", x.label(0, odd), -1);
            due("label(" + odd + ", " + odd + ")", x.label(odd, odd), -1);
        }
        due("label(4, 5)", x.label(4, 5), -1);
        due("label(5, 4)", x.label(5, 4), -1);
        x.drop(1);
        due("DROPPED", x.label(0, 1), -1);
        due("DROPPED", x.label(1, 2), -1);
        for (LabelOrder none : noOrders()) {
            due("no ORDER", none.label(0, 1), -1);
        }
    }

    // ---- promise 15

    private static void heightMost() {
        holds("Promise 15", "The most steps of a ROW that ends with a point.");
        due("one point", made("points 1").height(0), 0);
        for (int p = 0; p <= 8; p++) {
            due("height(" + p + ")", made(LINE9).height(p), p);
            due("height(" + p + ")", made(LINE9_DOWN).height(p), 8 - p);
        }
        LabelOrder x = made("points 6;0<5;1<2<5;3<4");
        due("the most", x.height(5), 2);
        due("of ROWS from anywhere", x.height(4), 1);
        x.drop(2);
        due("then", x.height(5), 1);
        x = made("points 2;1<0");
        due("over one", x.height(0), 1);
        x.drop(1);
        due("over none then", x.height(0), 0);
    }

    private static void heightNone() {
        holds("Promise 15", "NONE: none such.");
        LabelOrder x = made(LINE9);
        for (int odd : NO_POINTS) {
            due("height(" + odd + ")", x.height(odd), -1);
        }
        due("height(4) of 4", made("points 4").height(4), -1);
        x.drop(8);
        due("DROPPED", x.height(8), -1);
        for (LabelOrder none : noOrders()) {
            due("no ORDER", none.height(0), -1);
        }
    }

    // ---- promises 16 and 17

    private static void joins() {
        holds("Promise 16", "The point that both are or are BELOW, and that is, or is BELOW, each such one.");
        LabelOrder x = made("points 5;0<2;1<2;2<3;2<4");
        due("of two", x.join(0, 1), 2);
        due("the other way round", x.join(1, 0), 2);
        due("of one and what it is BELOW", x.join(0, 3), 3);
        due("of one and the same", x.join(4, 4), 4);
        due("one point", made("points 1").join(0, 0), 0);
        due("the ends", made(LINE9).join(0, 8), 8);
        due("the ends", made(LINE9_DOWN).join(8, 0), 0);
    }

    private static void joinRefused() {
        holds("Promise 16", "-1; -2.");
        LabelOrder x = made("points 5;0<2;1<2;2<3;2<4");
        due("nothing over both", x.join(3, 4), -2);
        due("two, neither BELOW the other", made(CROWN).join(0, 1), -2);
        due("points apart", made("points 2").join(0, 1), -2);
        for (int odd : NO_POINTS) {
            due("join(" + odd + ", 0)", x.join(odd, 0), -1);
            due("join(0, " + odd + ")", x.join(0, odd), -1);
            due("join(" + odd + ", " + odd + ")", x.join(odd, odd), -1);
        }
        due("join(0, 5)", x.join(0, 5), -1);
        x.drop(2);
        due("the one is DROPPED: two are left", x.join(0, 1), -2);
        due("DROPPED", x.join(2, 0), -1);
        due("DROPPED", x.join(0, 2), -1);
        due("DROPPED", x.join(2, 2), -1);
        x.drop(4);
        due("one is left", x.join(0, 1), 3);
        for (LabelOrder none : noOrders()) {
            due("no ORDER", none.join(0, 0), -1);
        }
    }

    private static void meets() {
        holds("Promise 17", "The point that is both or BELOW both, and that each such one is, or is BELOW.");
        LabelOrder x = made("points 5;2<0;2<1;3<2;4<2");
        due("of two", x.meet(0, 1), 2);
        due("the other way round", x.meet(1, 0), 2);
        due("of one and what is BELOW it", x.meet(0, 3), 3);
        due("of one and the same", x.meet(4, 4), 4);
        due("one point", made("points 1").meet(0, 0), 0);
        due("the ends", made(LINE9).meet(0, 8), 0);
        due("the ends", made(LINE9_DOWN).meet(8, 0), 8);
    }

    private static void meetRefused() {
        holds("Promise 17", "-1; -2.");
        LabelOrder x = made("points 5;2<0;2<1;3<2;4<2");
        due("nothing under both", x.meet(3, 4), -2);
        due("two, neither BELOW the other", made(CROWN).meet(2, 3), -2);
        due("points apart", made("points 2").meet(0, 1), -2);
        for (int odd : NO_POINTS) {
            due("meet(" + odd + ", 0)", x.meet(odd, 0), -1);
            due("meet(0, " + odd + ")", x.meet(0, odd), -1);
            due("meet(" + odd + ", " + odd + ")", x.meet(odd, odd), -1);
        }
        due("meet(5, 0)", x.meet(5, 0), -1);
        x.drop(2);
        due("the one is DROPPED: two are left", x.meet(0, 1), -2);
        due("DROPPED", x.meet(2, 0), -1);
        due("DROPPED", x.meet(0, 2), -1);
        due("DROPPED", x.meet(2, 2), -1);
        x.drop(4);
        due("one is left", x.meet(0, 1), 3);
        for (LabelOrder none : noOrders()) {
            due("no ORDER", none.meet(0, 0), -1);
        }
    }

    // ---- promise 18

    private static void kind(int what, String text, int want) {
        due("kind(" + what + ") of " + text, made(text).kind(what), want);
    }

    private static void kindBounded() {
        holds("Promise 18", "1 if, else 0, what 0: one point is, or is BELOW, each, and each is, or is BELOW, one");
        kind(0, "points 1", 1);
        kind(0, "points 2", 0);
        kind(0, "points 2;1<0", 1);
        kind(0, "points 3;0<1;0<2", 0);
        kind(0, "points 3;1<0;2<0", 0);
        kind(0, LINE9, 1);
        kind(0, "points 9;0<1;0<2;0<3;0<4;0<5;0<6;0<7;1<8;2<8;3<8;4<8;5<8;6<8;7<8", 1);
        kind(0, "points 9;0<1;0<2;0<3;0<4;0<5;0<6;0<7;1<8;2<8;3<8;4<8;5<8;6<8", 0);
        LabelOrder x = made("points 3;0<1;0<2");
        x.drop(2);
        due("of those that are there", x.kind(0), 1);
    }

    private static void kindEven() {
        holds("Promise 18", "1: of each INTERVAL all CHAINS have as many points");
        kind(1, "points 1", 1);
        kind(1, "points 9", 1);
        kind(1, LINE9, 1);
        kind(1, PENTAGON, 0);
        kind(1, CUBE, 1);
        kind(1, "points 5;0<1<2<4;0<3", 1);
        kind(1, "points 9;4<5<6<8;4<7<8", 0);
        kind(1, "points 9;8<7<6<4;8<5<4", 0);
        kind(1, "points 5;1<0<4;1<2<3<4", 0);
        kind(1, "points 5;1<2<3<0;1<4<0", 0);
        kind(1, "points 6;0<1<2;0<3<4<5", 1);
        LabelOrder x = made(PENTAGON);
        x.drop(1);
        due("of those that are there", x.kind(1), 1);
    }

    private static void kindLattice() {
        holds("Promise 18", "2: all two have join() and meet()");
        kind(2, "points 1", 1);
        kind(2, "points 2", 0);
        kind(2, "points 3;0<1;0<2", 0);
        kind(2, "points 3;1<0;2<0", 0);
        kind(2, PENTAGON, 1);
        kind(2, "points 6;0<1;0<2;1<3;1<4;2<3;2<4;3<5;4<5", 0);
        kind(2, "points 9;0<1;0<2;0<3;0<4;0<5;0<6;0<7;1<8;2<8;3<8;4<8;5<8;6<8;7<8", 1);
        LabelOrder x = made("points 6;0<1;0<2;1<3;1<4;2<3;2<4;3<5;4<5");
        x.drop(4);
        due("of those that are there", x.kind(2), 1);
    }

    private static void kindDistributive() {
        holds("Promise 18", "3: 2, and meet(x, join(y, z)) is join(meet(x, y), meet(x, z)) of all three");
        kind(3, "points 1", 1);
        kind(3, "points 2", 0);
        kind(3, LINE9, 1);
        kind(3, CUBE, 1);
        kind(3, DIAMOND, 0);
        kind(3, PENTAGON, 0);
        kind(3, CROWN, 0);
        // A grid of three by three, and the same with a side turned.
        kind(3, "points 9;0<1<3<6<8;0<2<4<7<8;1<4<6;2<5<7", 1);
        kind(3, "points 9;0<1<3<6<8;0<2<4<7<8;1<4;2<5<7", 0);
        LabelOrder x = made(DIAMOND);
        x.drop(3);
        due("of those that are there", x.kind(3), 1);
    }

    private static void kindModular() {
        holds("Promise 18", "4: 2, and that is so of all three of which z is x or BELOW x");
        kind(4, "points 1", 1);
        kind(4, "points 2", 0);
        kind(4, LINE9, 1);
        kind(4, DIAMOND, 1);
        kind(4, PENTAGON, 0);
        kind(4, CROWN, 0);
        kind(4, "points 9;8<7<6<4;8<5<4", 0);
        kind(4, "points 5;1<2<0<4;1<3<4", 0);
        kind(4, "points 5;1<0<2<4;1<3<4", 0);
        kind(4, "points 5;1<2<3<4;1<0<4", 0);
        LabelOrder x = made(PENTAGON);
        x.drop(2);
        due("of those that are there", x.kind(4), 1);
    }

    private static void kindLine() {
        holds("Promise 18", "5: of all two one is BELOW the other.");
        kind(5, "points 1", 1);
        kind(5, "points 2", 0);
        kind(5, "points 2;1<0", 1);
        kind(5, LINE9, 1);
        kind(5, LINE9_DOWN, 1);
        kind(5, "points 9;0<1<2<3<4<5<6<7;6<8", 0);
        LabelOrder x = made(SQUARE);
        x.drop(1);
        due("of those that are there", x.kind(5), 1);
    }

    private static void kindNone() {
        holds("Promise 18", "NONE: others, no ORDER.");
        LabelOrder x = made(LINE9);
        for (int what : new int[] {MIN, -2, -1, 6, 7, 32, MAX}) {
            due("kind(" + what + ")", x.kind(what), -1);
        }
        for (LabelOrder none : noOrders()) {
            for (int what = -1; what <= 6; what++) {
                due("no ORDER: kind(" + what + ")", none.kind(what), -1);
            }
        }
    }

    // ---- promises 19 to 22

    private static void widths() {
        holds("Promise 19", "The most points of which none is BELOW another one.");
        for (int n = 1; n <= 9; n++) {
            due("width() of " + n, made("points " + n).width(), n);
        }
        due("width() of a row", made(LINE9).width(), 1);
        due("width() of the crown", made(CROWN).width(), 2);
        due("not of one height alone", made("points 5;0<1;0<2;0<3<4").width(), 3);
        LabelOrder x = made("points 9;0<1;0<2;0<3;0<4;0<5;0<6;0<7;0<8");
        due("eight", x.width(), 8);
        x.drop(8);
        due("seven", x.width(), 7);
        x = made("points 2");
        x.drop(0);
        due("the last one", x.width(), 1);

        holds("Promise 19", "NONE: no ORDER.");
        for (LabelOrder none : noOrders()) {
            due("width()", none.width(), -1);
        }
    }

    private static void ideals() {
        holds("Promise 20", "How many sets of points have with each point all that is BELOW it.");
        for (int n = 1; n <= 9; n++) {
            due("ideals() of " + n + ", the empty one and all, too", made("points " + n).ideals(), 1 << n);
        }
        due("ideals() of a row", made(LINE9).ideals(), 10);
        due("ideals() of the crown", made(CROWN).ideals(), 7);
        due("ideals() of eight over one", made("points 9;0<1;0<2;0<3;0<4;0<5;0<6;0<7;0<8").ideals(), 257);
        LabelOrder x = made("points 2");
        x.drop(0);
        due("the last one", x.ideals(), 2);

        holds("Promise 20", "NONE: no ORDER.");
        for (LabelOrder none : noOrders()) {
            due("ideals()", none.ideals(), -1);
        }
    }

    private static void extensions() {
        holds("Promise 21", "How many rows of all points have none ahead of one that is BELOW it.");
        int all = 1;
        for (int n = 1; n <= 9; n++) {
            all *= n;
            due("extensions() of " + n, made("points " + n).extensions(), all);
        }
        due("extensions() of a row", made(LINE9).extensions(), 1);
        due("extensions() of one pair", made("points 9;8<0").extensions(), 181440);
        due("extensions() of eight over one", made("points 9;0<1;0<2;0<3;0<4;0<5;0<6;0<7;0<8").extensions(), 40320);
        LabelOrder x = made("points 9");
        x.drop(8);
        due("of those that are there", x.extensions(), 40320);
        for (int p = 0; p < 7; p++) {
            x.drop(p);
        }
        due("the last one", x.extensions(), 1);

        holds("Promise 21", "NONE: no ORDER.");
        for (LabelOrder none : noOrders()) {
            due("extensions()", none.extensions(), -1);
        }
    }

    private static void extensionPoints() {
        holds("Promise 22", "The i-th point (0 on) of that of them of least numbers, the first first.");
        for (int i = 0; i <= 8; i++) {
            due("extension(" + i + ") of points apart", made("points 9").extension(i), i);
            due("extension(" + i + ") of a row", made(LINE9_DOWN).extension(i), 8 - i);
        }
        LabelOrder x = made("points 4;3<0;0<1");
        int[] row = {2, 3, 0, 1};
        for (int i = 0; i < 4; i++) {
            due("extension(" + i + ")", x.extension(i), row[i]);
        }

        holds("Promise 22", "NONE: none such.");
        for (int i : new int[] {MIN, -2, -1, 4, 5, 8, 9, 32, MAX}) {
            due("extension(" + i + ") of four", x.extension(i), -1);
        }
        x.drop(2);
        due("the last of three", x.extension(2), 1);
        due("behind it", x.extension(3), -1);
        LabelOrder nine = made(LINE9);
        due("the last of nine", nine.extension(8), 8);
        due("behind it", nine.extension(9), -1);
        LabelOrder one = made("points 1");
        due("the only one", one.extension(0), 0);
        due("behind it", one.extension(1), -1);
        for (LabelOrder none : noOrders()) {
            due("no ORDER", none.extension(0), -1);
        }
    }
}

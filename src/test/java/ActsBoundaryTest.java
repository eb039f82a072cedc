/** The boundary cases of promises 6 to 12 and of acts and codes (Term 4's block). */
public final class ActsBoundaryTest extends Cases {
    private static final String BLOCK = "Term 4 block";

    public static void main(String[] args) {
        relatePairs();
        relateWrong();
        relateImpossible();
        liftTold();
        liftWrong();
        ruleBounds();
        dropLeft();
        dropWrong();
        dropLast();
        undoLatest();
        undoWithout();
        keepBounds();
        keepRefused();
        againKept();
        againRefused();
        actsThatChangeNothing();
        latestSixteen();
        ringOfSixteen();
        refusedAreNoActs();
        orderLeavesNone();
        codes();
        end(promises(6, 12, BLOCK));
    }

    // ---- promise 6

    private static void relatePairs() {
        holds("Promise 6", "Act: a is BELOW b: how many pairs are so then.");
        LabelOrder x = made("points 9");
        due("the first pair", x.relate(0, 8), 1);
        due("of(0, 0)", x.of(0, 0), 256);
        x = made("points 9");
        int pairs = 0;
        for (int b = 1; b <= 8; b++) {
            pairs += b;
            due("relate(" + (b - 1) + ", " + b + ")", x.relate(b - 1, b), pairs);
        }
        due("all pairs: what is so is so then, too", x.relate(0, 8), 36);
        x = made("points 9;0<1<2<3;4<5<6<7<8");
        due("all of one row below all of the other", x.relate(3, 4), 36);
        x = made("points 9;0<1<2<3;4<5<6<7<8");
        due("the lowest below the highest alone", x.relate(0, 8), 17);
        x = made("points 4;0<1;2<3");
        x.drop(1);
        due("of those that are there", x.relate(0, 2), 3);
        x = made("points 2");
        due("relate(1, 0)", x.relate(1, 0), 1);
        due("of(1, 0)", x.of(1, 0), 1);
    }

    private static void relateWrong() {
        holds("Promise 6", "-1; -2: b is BELOW a, or both are one.");
        for (int n = 1; n <= 9; n++) {
            LabelOrder x = made("points " + n);
            for (int odd : NO_POINTS) {
                due("relate(" + odd + ", 0)", x.relate(odd, 0), -1);
                due("relate(0, " + odd + ")", x.relate(0, odd), -1);
            }
            due("the first that is no point", x.relate(0, n), -1);
            due("the first that is no point", x.relate(n, 0), -1);
            due("the last that is one", x.relate(0, n - 1), n == 1 ? -2 : 1);
        }
        LabelOrder x = made("points 3");
        due("no point twice: -1 ahead of -2", x.relate(3, 3), -1);
        due("no point twice: -1 ahead of -2", x.relate(-1, -1), -1);
        x.drop(1);
        due("DROPPED", x.relate(0, 1), -1);
        due("DROPPED", x.relate(1, 0), -1);
        due("DROPPED, both one", x.relate(1, 1), -1);
        for (LabelOrder none : noOrders()) {
            due("no ORDER", none.relate(0, 1), -1);
            due("no ORDER, both one", none.relate(0, 0), -1);
        }
        stays("relate(0, 9)", ActsBoundaryTest::busy, o -> o.relate(0, 9), -1);
        stays("relate(-1, 0)", ActsBoundaryTest::busy, o -> o.relate(-1, 0), -1);
        stays("relate(3, 0): DROPPED", ActsBoundaryTest::busy, o -> o.relate(3, 0), -1);
        stays("relate(0, 1): no ORDER", LabelOrder::new, o -> o.relate(0, 1), -1);
    }

    private static void relateImpossible() {
        holds("Promise 6", "-2: b is BELOW a, or both are one.");
        LabelOrder x = made(LINE9);
        for (int p = 0; p <= 8; p++) {
            due("relate(" + p + ", " + p + ")", x.relate(p, p), -2);
        }
        due("an edge the other way round", x.relate(1, 0), -2);
        due("the ends of a row the other way round", x.relate(8, 0), -2);
        x.drop(4);
        due("BELOW by a point that is DROPPED", x.relate(5, 3), -2);
        due("as it is", x.relate(3, 5), 28);
        stays("relate(0, 0)", ActsBoundaryTest::busy, o -> o.relate(0, 0), -2);
        stays("relate(8, 0)", ActsBoundaryTest::busy, o -> o.relate(8, 0), -2);
        stays("relate(0, 0) of one point", () -> made("points 1"), o -> o.relate(0, 0), -2);
    }

    // ---- promise 7

    private static void liftTold() {
        holds("Promise 7", "Act: the LABEL told for (a, b), unlike points, becomes v (0 .. 99): what was told (0 without).");
        LabelOrder x = made("points 9;0<8;label 0 8 42");
        due("what the text told", x.lift(0, 8, 0), 42);
        due("label", x.label(0, 8), 0);
        int was = 0;
        for (int v = 0; v <= 99; v++) {
            due("lift(0, 8, " + v + ")", x.lift(0, 8, v), was);
            was = v;
        }
        due("label 99", x.label(0, 8), 99);
        due("0 without", x.lift(8, 7, 1), 0);
        due("points of which none is BELOW the other", x.lift(8, 7, 2), 1);
        due("the other way round is another pair", x.lift(7, 8, 3), 0);
        due("the other way round is another pair", x.lift(8, 7, 4), 2);
        x.rule(3);
        due("what was told, whatever the RULE", x.lift(0, 8, 5), 99);
        due("label by the RULE", x.label(0, 8), 8);
        x = made("points 3;0<1<2");
        x.lift(0, 2, 50);
        due("no edge yet", x.label(0, 2), -2);
        x.drop(1);
        due("an edge then", x.label(0, 2), 50);
    }

    private static void liftWrong() {
        holds("Promise 7", "-1 (one and the same, too).");
        LabelOrder x = made(LINE9);
        for (int p = 0; p <= 8; p++) {
            due("lift(" + p + ", " + p + ", 0)", x.lift(p, p, 0), -1);
        }
        for (int v : new int[] {MIN, -100, -99, -2, -1, 100, 101, 256, 65536, MAX}) {
            due("lift(0, 1, " + v + ")", x.lift(0, 1, v), -1);
        }
        due("none was an act", x.count(5), 0);
        for (int n = 1; n <= 9; n++) {
            x = made("points " + n);
            for (int odd : NO_POINTS) {
                due("lift(" + odd + ", 0, 1)", x.lift(odd, 0, 1), -1);
                due("lift(0, " + odd + ", 1)", x.lift(0, odd, 1), -1);
            }
            due("the first that is no point", x.lift(0, n, 1), -1);
            due("the first that is no point", x.lift(n, 0, 1), -1);
            due("the last that is one", x.lift(0, n - 1, 1), n == 1 ? -1 : 0);
            due("the last that is one", x.lift(n - 1, 0, 1), n == 1 ? -1 : 0);
        }
        x = made("points 3");
        x.drop(0);
        due("DROPPED", x.lift(0, 1, 1), -1);
        due("DROPPED", x.lift(1, 0, 1), -1);
        for (LabelOrder none : noOrders()) {
            due("no ORDER", none.lift(0, 1, 1), -1);
        }
        stays("lift(0, 0, 5)", ActsBoundaryTest::busy, o -> o.lift(0, 0, 5), -1);
        stays("lift(0, 1, 100)", ActsBoundaryTest::busy, o -> o.lift(0, 1, 100), -1);
        stays("lift(0, 1, -1)", ActsBoundaryTest::busy, o -> o.lift(0, 1, -1), -1);
        stays("lift(0, 9, 1)", ActsBoundaryTest::busy, o -> o.lift(0, 9, 1), -1);
        stays("lift(3, 1, 1): DROPPED", ActsBoundaryTest::busy, o -> o.lift(3, 1, 1), -1);
        stays("lift(0, 1, 1): no ORDER", LabelOrder::new, o -> o.lift(0, 1, 1), -1);
    }

    // ---- promise 8

    private static void ruleBounds() {
        holds("Promise 8", "Act: the RULE becomes r (0 .. 3): what it was.");
        LabelOrder x = made("points 2");
        int was = 0;
        for (int r : new int[] {3, 0, 3, 2, 1, 0, 0}) {
            due("rule(" + r + ")", x.rule(r), was);
            due("count(4)", x.count(4), r);
            was = r;
        }
        due("what the text told", made("points 2;rule 3").rule(3), 3);

        holds("Promise 8", "-1.");
        for (int r : new int[] {MIN, -4, -1, 4, 5, 256, MAX}) {
            due("rule(" + r + ")", x.rule(r), -1);
        }
        for (LabelOrder none : noOrders()) {
            due("no ORDER", none.rule(0), -1);
            due("no ORDER: count(4)", none.count(4), 0);
        }
        stays("rule(4)", ActsBoundaryTest::busy, o -> o.rule(4), -1);
        stays("rule(-1)", ActsBoundaryTest::busy, o -> o.rule(-1), -1);
        stays("rule(1): no ORDER", () -> told("points 2;0<1"), o -> o.rule(1), -1);
    }

    // ---- promise 9

    private static void dropLeft() {
        holds("Promise 9", "Act: a point is DROPPED: how many are left.");
        LabelOrder x = made(LINE9);
        for (int p = 0; p <= 7; p++) {
            due("drop(" + p + ")", x.drop(p), 8 - p);
            due("count(1)", x.count(1), 511 & ~((2 << p) - 1));
        }
        due("count(0): POINTS told", x.count(0), 9);
        x = made(LINE9);
        for (int p = 8; p >= 1; p--) {
            due("drop(" + p + ")", x.drop(p), p);
        }
        due("count(1)", x.count(1), 1);
        due("of two the other one is left", made("points 2").drop(1), 1);
    }

    private static void dropWrong() {
        holds("Promise 9", "-1; -2: it is the last one.");
        for (int n = 2; n <= 9; n++) {
            LabelOrder x = made("points " + n);
            for (int odd : NO_POINTS) {
                due("drop(" + odd + ")", x.drop(odd), -1);
            }
            due("the first that is no point", x.drop(n), -1);
            due("the last that is one", x.drop(n - 1), n - 1);
            due("DROPPED", x.drop(n - 1), -1);
        }
        for (LabelOrder none : noOrders()) {
            due("no ORDER", none.drop(0), -1);
        }
        stays("drop(9)", ActsBoundaryTest::busy, o -> o.drop(9), -1);
        stays("drop(3): DROPPED", ActsBoundaryTest::busy, o -> o.drop(3), -1);
        stays("drop(0): no ORDER", LabelOrder::new, o -> o.drop(0), -1);
    }

    private static LabelOrder lastOne() {
        LabelOrder x = made("points 3;0<1<2;label 0 2 5");
        x.keep(0);
        x.drop(0);
        x.drop(2);
        return x;
    }

    private static void dropLast() {
        holds("Promise 9", "-2: it is the last one.");
        LabelOrder x = made("points 1");
        due("the only one", x.drop(0), -2);
        due("it is there yet", x.count(1), 1);
        due("no point: -1", x.drop(1), -1);
        x = lastOne();
        due("drop(1)", x.drop(1), -2);
        due("drop(0): DROPPED", x.drop(0), -1);
        due("undo()", x.undo(), 1);
        due("one of two then", x.drop(1), 1);
        due("the last one then", x.drop(2), -2);
        stays("drop(1)", ActsBoundaryTest::lastOne, o -> o.drop(1), -2);
    }

    // ---- promise 10

    private static void undoLatest() {
        holds("Promise 10", "The latest act is undone: how many can be yet.");
        LabelOrder x = made("points 4;0<1;2<3;label 0 1 7;rule 0");
        x.keep(0);
        x.relate(1, 2);
        x.lift(0, 1, 9);
        x.rule(2);
        x.drop(1);
        x.again(0);
        due("undo again", x.undo(), 4);
        due("count(1)", x.count(1), 13);
        due("undo drop", x.undo(), 3);
        due("count(1)", x.count(1), 15);
        due("count(2): with what was BELOW", x.count(2), 6);
        due("undo rule", x.undo(), 2);
        due("count(4)", x.count(4), 0);
        due("label", x.label(0, 1), 9);
        due("undo lift", x.undo(), 1);
        due("label", x.label(0, 1), 7);
        due("undo relate", x.undo(), 0);
        due("count(2)", x.count(2), 2);
        due("undo is no act", x.count(5), 0);
        x.rule(1);
        x.undo();
        x.rule(3);
        due("what was undone is gone", x.undo(), 0);
        due("count(4)", x.count(4), 0);
        sameAs("an act and its undo", () -> made(CUBE), o -> {
            o.drop(3);
            o.relate(1, 2);
            o.lift(0, 4, 50);
            o.rule(2);
            o.undo();
            o.undo();
            o.undo();
            o.undo();
        });
    }

    private static LabelOrder kept() {
        LabelOrder x = made(PENTAGON);
        x.keep(1);
        return x;
    }

    private static void undoWithout() {
        holds("Promise 10", "-1: no ORDER; -2: there is none.");
        for (LabelOrder none : noOrders()) {
            due("no ORDER", none.undo(), -1);
            due("no ORDER again", none.undo(), -1);
        }
        LabelOrder x = made("points 2");
        due("ahead of any act", x.undo(), -2);
        x.rule(0);
        due("one", x.undo(), 0);
        due("none", x.undo(), -2);
        due("none again", x.undo(), -2);
        due("count(5)", x.count(5), 0);
        stays("undo()", ActsBoundaryTest::kept, o -> o.undo(), -2);
        stays("undo(): no ORDER", () -> told("points 2;0<1"), o -> o.undo(), -1);
    }

    // ---- promises 11 and 12

    private static void keepBounds() {
        holds("Promise 11", "POINTS, what is BELOW, LABELS told, the RULE are kept under k (0, 1): true");
        LabelOrder x = made("points 4;0<1;rule 3;label 2 3 8");
        x.drop(3);
        due("keep(0)", x.keep(0), true);
        x.undo();
        due("keep(1)", x.keep(1), true);
        x.relate(1, 2);
        x.lift(2, 3, 9);
        x.rule(1);
        due("again(0)", x.again(0), true);
        due("POINTS", x.count(1), 7);
        due("what is BELOW", x.count(2), 1);
        due("the RULE", x.count(4), 3);
        due("again(1)", x.again(1), true);
        due("POINTS", x.count(1), 15);
        due("LABELS told", x.lift(2, 3, 1), 8);
        due("kept anew", x.keep(1), true);
        due("again(0): the other stays", x.again(0), true);
        due("count(1)", x.count(1), 7);
        due("again(1)", x.again(1), true);
        due("as kept anew", x.lift(2, 3, 1), 1);
        due("keep is no act", x.count(5), 9);
        due("undo()", x.undo(), 8);
        due("keep(0)", x.keep(0), true);
        due("keep(0) again", x.keep(0), true);
        due("no act yet", x.count(5), 8);
        x = made("points 1;rule 2");
        due("keep(0) of one point", x.keep(0), true);
        due("keep(1) of one point", x.keep(1), true);
        x.rule(1);
        due("again(0) of one point", x.again(0), true);
        due("count(4)", x.count(4), 2);
        due("like(1) of one point", x.like(1), 1);
    }

    private static void keepRefused() {
        holds("Promise 11", "false: others, no ORDER.");
        LabelOrder x = made("points 2");
        for (int k : new int[] {MIN, -2, -1, 2, 3, 32, 33, MAX}) {
            due("keep(" + k + ")", x.keep(k), false);
            due("like(" + k + ")", x.like(k), -1);
        }
        due("like(0): nothing kept", x.like(0), -1);
        due("like(1): nothing kept", x.like(1), -1);
        for (LabelOrder none : noOrders()) {
            due("keep(0): no ORDER", none.keep(0), false);
            due("keep(1): no ORDER", none.keep(1), false);
            due("again(0): nothing kept", none.again(0), false);
        }
        stays("keep(2)", ActsBoundaryTest::busy, o -> asInt(o.keep(2)), 0);
        stays("keep(-1)", ActsBoundaryTest::busy, o -> asInt(o.keep(-1)), 0);
        stays("keep(0): no ORDER", () -> told("points 2;0<1"), o -> asInt(o.keep(0)), 0);
    }

    private static void againKept() {
        holds("Promise 12", "Act: they are as they were kept: true");
        LabelOrder x = made("points 3;0<1;rule 1");
        x.keep(1);
        due("again(1) of what is so", x.again(1), true);
        due("it is an act", x.count(5), 1);
        x.drop(0);
        x.drop(1);
        due("again(1)", x.again(1), true);
        due("count(1)", x.count(1), 7);
        due("of(0, 0)", x.of(0, 0), 2);
        x.relate(1, 2);
        x.lift(0, 1, 5);
        x.rule(0);
        due("again(1): what is kept has not changed", x.again(1), true);
        due("count(2)", x.count(2), 1);
        due("lift", x.lift(0, 1, 6), 0);
        due("count(4)", x.count(4), 1);
        for (int i = 0; i < 20; i++) {
            due("again(1) " + i, x.again(1), true);
        }
        due("count(5)", x.count(5), 16);
        due("undo()", x.undo(), 15);
        due("kept yet", x.again(1), true);
    }

    private static void againRefused() {
        holds("Promise 12", "false: others, nothing kept.");
        LabelOrder x = kept();
        due("again(0): nothing kept", x.again(0), false);
        for (int k : new int[] {MIN, -2, -1, 2, 3, 32, 33, MAX}) {
            due("again(" + k + ")", x.again(k), false);
        }
        due("no acts", x.count(5), 0);
        due("again(1)", x.again(1), true);
        for (LabelOrder none : noOrders()) {
            due("no ORDER", none.again(0), false);
            due("no ORDER", none.again(1), false);
        }
        stays("again(0)", ActsBoundaryTest::kept, o -> asInt(o.again(0)), 0);
        stays("again(2)", ActsBoundaryTest::busy, o -> asInt(o.again(2)), 0);
        stays("again(-1)", ActsBoundaryTest::busy, o -> asInt(o.again(-1)), 0);
        stays("again(1): no ORDER", LabelOrder::new, o -> asInt(o.again(1)), 0);
    }

    // ---- acts

    private static void actsThatChangeNothing() {
        holds(BLOCK, "Acts (relate, lift, rule, drop, again; that change nothing, too)");
        LabelOrder x = made("points 3;0<1<2;label 0 1 4;rule 2");
        x.keep(0);
        due("relate", x.relate(0, 2), 3);
        due("count(5)", x.count(5), 1);
        due("lift", x.lift(0, 1, 4), 4);
        due("count(5)", x.count(5), 2);
        due("rule", x.rule(2), 2);
        due("count(5)", x.count(5), 3);
        due("again", x.again(0), true);
        due("count(5)", x.count(5), 4);
        due("drop", x.drop(1), 2);
        due("count(5)", x.count(5), 5);
        for (int left = 4; left >= 0; left--) {
            due("undo()", x.undo(), left);
            due("count(1)", x.count(1), 7);
        }
        due("undo()", x.undo(), -2);
        // An act that changes nothing takes the place of one that did.
        x.rule(1);
        for (int i = 0; i < 16; i++) {
            x.relate(0, 2);
        }
        for (int left = 15; left >= 0; left--) {
            due("undo()", x.undo(), left);
        }
        due("undo()", x.undo(), -2);
        due("the one that did stays", x.count(4), 1);
    }

    private static void latestSixteen() {
        holds(BLOCK, "the latest 16 can be undone");
        for (int acts = 0; acts <= 35; acts++) {
            LabelOrder x = made("points 2;0<1");
            for (int v = 1; v <= acts; v++) {
                due("lift", x.lift(0, 1, v), v - 1);
                due("count(5)", x.count(5), Math.min(v, 16));
            }
            int can = Math.min(acts, 16);
            for (int left = can - 1; left >= 0; left--) {
                due("undo() of " + acts, x.undo(), left);
                due("label", x.label(0, 1), acts - can + left);
            }
            due("undo() of " + acts + ": no more", x.undo(), -2);
            due("label stays", x.label(0, 1), acts - can);
        }
    }

    /** Acts and undos in turns of many lengths against a plain stack of what was told. */
    private static void ringOfSixteen() {
        holds(BLOCK, "the latest 16 can be undone");
        LabelOrder x = made("points 2;0<1");
        java.util.ArrayDeque<Integer> past = new java.util.ArrayDeque<>();
        int now = 0;
        int turns = 0;
        for (int many : new int[] {16, -5, 10, -16, -1, 3, -2, 17, -17, 40, -9, 9, -10, 5, -16, 33, -20}) {
            for (int i = 0; i < Math.abs(many); i++) {
                if (many > 0) {
                    past.addLast(now);
                    turns++;
                    due("lift", x.lift(0, 1, turns % 100), now);
                    now = turns % 100;
                } else {
                    due("undo()", x.undo(), past.isEmpty() ? -2 : past.size() - 1);
                    now = past.isEmpty() ? now : past.removeLast();
                }
                if (past.size() > 16) {
                    past.removeFirst();
                }
            }
            due("label", x.label(0, 1), now);
            due("count(5)", x.count(5), past.size());
        }
    }

    private static void refusedAreNoActs() {
        holds(BLOCK, "Acts (relate, lift, rule, drop, again; that change nothing, too)");
        LabelOrder x = made("points 2;0<1");
        x.rule(3);
        x.relate(1, 0);
        x.relate(0, 0);
        x.relate(0, 2);
        x.lift(0, 0, 1);
        x.lift(0, 1, 100);
        x.rule(4);
        x.drop(2);
        x.again(0);
        x.keep(0);
        x.keep(2);
        x.again(1);
        due("count(5)", x.count(5), 1);
        x.drop(0);
        x.drop(1);
        due("count(5)", x.count(5), 2);
        due("undo()", x.undo(), 1);
        due("undo()", x.undo(), 0);
        due("count(4)", x.count(4), 0);
    }

    private static void orderLeavesNone() {
        holds(BLOCK, "an ORDER leaves none, nothing kept.");
        for (String text : new String[] {"points 1", "points 9;0<1"}) {
            LabelOrder x = busy();
            x.end(0);
            tell(x, text);
            due("order()", x.order(), text.length() > 8 ? 2 : 1);
            due("count(5)", x.count(5), 0);
            due("undo()", x.undo(), -2);
            due("like(0)", x.like(0), -1);
            due("like(1)", x.like(1), -1);
            due("again(0)", x.again(0), false);
            due("again(1)", x.again(1), false);
            due("rule", x.rule(1), 0);
            due("undo()", x.undo(), 0);
        }
        LabelOrder x = busy();
        x.end(0);
        due("a FAULT", x.order(), -1);
        due("leaves all: count(5)", x.count(5), 16);
        due("leaves all: like(1)", x.like(1) >= 0, true);
        due("leaves all: again(0)", x.again(0), true);
    }

    private static void codes() {
        holds(BLOCK, "Codes: -1 a number that can't be, none such (DROPPED, too), no ORDER; -2 it can't be (now), there is none.");
        LabelOrder x = made("points 3;0<1");
        due("a number that can't be", x.lift(0, 1, 100), -1);
        due("none such", x.drop(3), -1);
        due("it can't be", x.relate(1, 0), -2);
        due("there is none", x.undo(), -2);
        due("it can't be now", x.label(0, 2), -2);
        due("now it can", x.relate(0, 2), 2);
        due("now it can", x.label(0, 2), 0);
        x.drop(2);
        due("DROPPED, too", x.drop(2), -1);
        due("DROPPED, too", x.label(0, 2), -1);
        due("no ORDER", new LabelOrder().drop(0), -1);
    }
}

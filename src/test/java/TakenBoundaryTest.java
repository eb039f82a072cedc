/** The boundary cases of promises 40 to 45 and of what is taken away (Term 4); and that what asks changes nothing. */
public final class TakenBoundaryTest extends Cases {
    private static final String TERM = "Term 4";
    /** Seven points apart between 0 and 8. */
    private static final String SEVEN = "points 9;0<1<8;0<2<8;0<3<8;0<4<8;0<5<8;0<6<8;0<7<8";
    private static final String RING = "points 6;0<3;0<4;1<4;1<5;2<5;2<3";

    public static void main(String[] args) {
        irreducible();
        coreLeft();
        countedPoints();
        selvesWays();
        withoutInner();
        withoutRefused();
        countedBits();
        countedRefused();
        coreCall();
        coreNotSoMany();
        coreRefused();
        selvesCall();
        likeKept();
        likeRefused();
        countEach();
        countOthers();
        asksChangeNothing();
        end(promises(40, 45, TERM));
    }

    // ---- Term 4

    private static void irreducible() {
        holds(TERM, "IRREDUCIBLE: a point that COVERS just one, or that just one COVERS.");
        due("it COVERS just one", made("points 3;0<1;0<2").core(0), 1);
        due("just one COVERS it", made("points 3;1<0;2<0").core(0), 1);
        due("it COVERS none, two COVER it", made(CROWN).core(0), -2);
        due("it COVERS two, none COVERS it", made("points 3;0<2;1<2").core(0), 0);
        due("neither", made("points 2").core(0), -2);
        due("none of the ring is", made(RING).core(0), -2);
        due("of three the middle one COVERS two and two COVER it",
                made("points 5;1<0;2<0;0<3;0<4").core(0), 1);
    }

    private static void coreLeft() {
        holds(TERM, "CORE: the least such point is taken away, again and again, till there is none.");
        for (int n = 1; n <= 9; n++) {
            due("points apart: all are left", made("points " + n).core(-1), n);
        }
        due("one is left of a row", made(LINE9).core(-1), 1);
        LabelOrder x = made("points 5;1<0;2<0;0<3;0<4");
        int[] taken = {1, 0, 3, 2};
        for (int i = 0; i < 4; i++) {
            due("the least such point, taken away " + i, x.core(i), taken[i]);
        }
        due("the end", x.core(4), -2);
        due("one is left", x.core(-1), 1);
        due("the ring is left", made(RING).core(-1), 6);
    }

    private static void countedPoints() {
        holds(TERM, "COUNTED of (a, b): INNER points without which MOEBIUS of it would be another one.");
        due("a is b: none", made(LINE9).counted(4, 4), 0);
        due("no INNER points: none", made(LINE9).counted(4, 5), 0);
        due("one INNER point", made(LINE9).counted(4, 6), 32);
        due("two in a row: none", made(LINE9).counted(4, 7), 0);
        due("seven apart: all", made(SEVEN).counted(0, 8), 254);
        due("of the pentagon one", made(PENTAGON).counted(0, 4), 8);
    }

    private static void selvesWays() {
        holds(TERM, "SELVES: ways in which points change places (or not), so that x is BELOW y just if theirs are.");
        due("or not: one", made("points 1").selves(), 1);
        due("or not: one of a row", made(LINE9).selves(), 1);
        due("two", made("points 2").selves(), 2);
        due("one way round alone", made("points 2;0<1").selves(), 1);
        due("the ring turns and does not turn over, nor upside down", made(RING).selves(), 6);
        due("upside down is none", made("points 4;0<1;2<3").selves(), 2);
        due("no two go to one place", made("points 7;0<2;1<2;3<5;4<5;4<6").selves(), 2);
    }

    // ---- promise 40

    private static void withoutInner() {
        holds("Promise 40", "MOEBIUS of (a, b) without an INNER point x.");
        due("the only INNER point", made("points 3;0<1<2").without(0, 2, 1), -1);
        LabelOrder x = made(SEVEN);
        for (int p = 1; p <= 7; p++) {
            due("without(0, 8, " + p + ")", x.without(0, 8, p), 5);
        }
        due("it is there yet", x.moebius(0, 8), 6);
        due("it is there yet", x.count(1), 511);
        due("no act", x.count(5), 0);
        x = made("points 4;3<2<1<0");
        due("of a row", x.without(3, 0, 2), 0);
    }

    private static void withoutRefused() {
        holds("Promise 40", "Integer.MIN_VALUE: none such, no INTERVAL, x is not INNER.");
        LabelOrder x = made(SEVEN);
        due("x is a", x.without(0, 8, 0), MIN);
        due("x is b", x.without(0, 8, 8), MIN);
        due("x beside it", x.without(0, 1, 2), MIN);
        due("a is b", x.without(1, 1, 1), MIN);
        due("a is b", x.without(1, 1, 0), MIN);
        due("no INNER points", x.without(0, 1, 0), MIN);
        due("no INNER points", x.without(0, 1, 1), MIN);
        due("the other way round", x.without(8, 0, 1), MIN);
        due("neither", x.without(1, 2, 3), MIN);
        for (int odd : NO_POINTS) {
            due("without(" + odd + ", 8, 1)", x.without(odd, 8, 1), MIN);
            due("without(0, " + odd + ", 1)", x.without(0, odd, 1), MIN);
            due("without(0, 8, " + odd + ")", x.without(0, 8, odd), MIN);
        }
        due("no point of four", made("points 4;0<1<3").without(0, 3, 4), MIN);
        due("over b", made(LINE9).without(0, 2, 3), MIN);
        due("under a", made(LINE9).without(3, 5, 2), MIN);
        x.drop(3);
        due("x is DROPPED", x.without(0, 8, 3), MIN);
        due("another one", x.without(0, 8, 4), 4);
        x.drop(8);
        due("b is DROPPED", x.without(0, 8, 4), MIN);
        for (LabelOrder none : noOrders()) {
            due("no ORDER", none.without(0, 2, 1), MIN);
        }
    }

    // ---- promise 41

    private static void countedBits() {
        holds("Promise 41", "COUNTED, as bits.");
        LabelOrder x = made(SEVEN);
        due("points 1 to 7", x.counted(0, 8), 254);
        x.drop(1);
        due("of those that are there", x.counted(0, 8), 252);
        due("a is b", x.counted(0, 0), 0);
        due("no INNER points", x.counted(0, 2), 0);
        due("numbers that run down", made("points 9;8<0<7;8<1<7").counted(8, 7), 3);
    }

    private static void countedRefused() {
        holds("Promise 41", "-1; -2.");
        LabelOrder x = made(SEVEN);
        due("the other way round", x.counted(8, 0), -2);
        due("neither", x.counted(1, 2), -2);
        for (int odd : NO_POINTS) {
            due("counted(" + odd + ", 8)", x.counted(odd, 8), -1);
            due("counted(0, " + odd + ")", x.counted(0, odd), -1);
            due("counted(" + odd + ", " + odd + ")", x.counted(odd, odd), -1);
        }
        due("none such", made("points 4;0<3").counted(0, 4), -1);
        x.drop(8);
        due("DROPPED", x.counted(0, 8), -1);
        for (LabelOrder none : noOrders()) {
            due("no ORDER", none.counted(0, 0), -1);
        }
    }

    // ---- promise 42

    private static void coreCall() {
        holds("Promise 42", "CORE: how many points are left (i NONE), the i-th that is taken away (0 on; -2: there are not so many).");
        LabelOrder x = made(LINE9);
        due("core(NONE)", x.core(-1), 1);
        for (int i = 0; i <= 7; i++) {
            due("core(" + i + ")", x.core(i), i);
        }
        due("all are there yet", x.count(1), 511);
        due("no act", x.count(5), 0);
        x = made(LINE9_DOWN);
        for (int i = 0; i <= 7; i++) {
            due("core(" + i + ")", x.core(i), i);
        }
        x.drop(0);
        due("of those that are there", x.core(0), 1);
        due("core(NONE)", x.core(-1), 1);
    }

    private static void coreNotSoMany() {
        holds("Promise 42", "-2: there are not so many");
        for (int i : new int[] {8, 9, 10, 32, MAX}) {
            due("core(" + i + ") of eight", made(LINE9).core(i), -2);
        }
        for (int i : new int[] {0, 1, 8, 9, MAX}) {
            due("core(" + i + ") of none", made("points 9").core(i), -2);
            due("core(" + i + ") of none", made("points 1").core(i), -2);
        }
        LabelOrder x = made(SQUARE);
        due("core(2)", x.core(2), 2);
        due("core(3)", x.core(3), -2);
    }

    private static void coreRefused() {
        holds("Promise 42", "-3: no ORDER, i below NONE.");
        LabelOrder x = made(SQUARE);
        for (int i : new int[] {MIN, -3, -2}) {
            due("core(" + i + ")", x.core(i), -3);
        }
        due("core(NONE)", x.core(-1), 1);
        for (LabelOrder none : noOrders()) {
            for (int i = -2; i <= 1; i++) {
                due("no ORDER: core(" + i + ")", none.core(i), -3);
            }
        }
    }

    // ---- promises 43 and 44

    private static void selvesCall() {
        holds("Promise 43", "SELVES: how many.");
        int all = 1;
        for (int n = 1; n <= 9; n++) {
            all *= n;
            due("points apart: all ways", made("points " + n).selves(), all);
        }
        due("seven", made(SEVEN).selves(), 5040);
        LabelOrder x = made("points 9");
        x.drop(4);
        due("of those that are there", x.selves(), 40320);
        x = made("points 2");
        x.drop(0);
        due("the last one", x.selves(), 1);
        due("labels do not count", made(SQUARE).selves(), 2);

        holds("Promise 43", "NONE: no ORDER.");
        for (LabelOrder none : noOrders()) {
            due("selves()", none.selves(), -1);
        }
    }

    private static void likeKept() {
        holds("Promise 44", "1 if the order is, but for what points are called, like the one kept under k (what is BELOW alone), else 0.");
        LabelOrder x = made("points 3;0<1");
        x.keep(0);
        due("itself", x.like(0), 1);
        x.undo();
        x.relate(1, 2);
        x.keep(1);
        due("more BELOW", x.like(0), 0);
        x.undo();
        due("less BELOW", x.like(1), 0);
        due("like(0)", x.like(0), 1);
        x.rule(3);
        x.lift(0, 1, 50);
        due("what is BELOW alone", x.like(0), 1);
        x.drop(2);
        due("fewer points", x.like(0), 0);
        x.undo();
        x.drop(0);
        due("fewer points", x.like(0), 0);
        x = made("points 9;0<1;7<8");
        x.drop(0);
        x.keep(0);
        x.undo();
        x.drop(8);
        due("others are DROPPED", x.like(0), 1);
        x.undo();
        x.drop(5);
        due("as many points, another order", x.like(0), 0);
        x = made("points 3;0<1;0<2");
        x.keep(0);
        x.drop(2);
        x.drop(1);
        x.keep(1);
        x.undo();
        x.undo();
        x.drop(0);
        x.drop(2);
        due("one point", x.like(1), 1);
        x = made("points 2;0<1");
        x.keep(0);
        tell(x, "points 2");
        x.order();
        x.relate(1, 0);
        due("an ORDER leaves nothing kept", x.like(0), -1);
        x = made("points 6;0<1;0<2;3<5;4<5");
        x.keep(0);
        due("upside down", x.like(0), 1);
        x.drop(3);
        x.keep(0);
        x.undo();
        x.drop(1);
        due("upside down is unlike", x.like(0), 0);
        x = made("points 5;0<2;1<2");
        x.relate(1, 3);
        x.keep(0);
        x.undo();
        due("no two go to one place", x.like(0), 0);
        x = made("points 5");
        x.drop(0);
        x.drop(2);
        x.keep(0);
        x.relate(1, 3);
        due("points behind those that are DROPPED", x.like(0), 0);
    }

    private static void likeRefused() {
        holds("Promise 44", "-1: no such k, nothing kept.");
        LabelOrder x = made("points 2");
        due("like(0): nothing kept", x.like(0), -1);
        due("like(1): nothing kept", x.like(1), -1);
        x.keep(1);
        due("like(0): nothing kept yet", x.like(0), -1);
        due("like(1)", x.like(1), 1);
        x.keep(0);
        for (int k : new int[] {MIN, -2, -1, 2, 3, 32, 33, MAX}) {
            due("like(" + k + ")", x.like(k), -1);
        }
        for (LabelOrder none : noOrders()) {
            due("no ORDER", none.like(0), -1);
            due("no ORDER", none.like(1), -1);
        }
    }

    // ---- promise 45

    private static void countEach() {
        holds("Promise 45", "0 POINTS told, 1 POINTS that are there, as bits, 2 pairs of which one is BELOW the other, 3 edges, "
                + "4 the RULE, 5 what can be undone, 6 signs of THE TAPE.");
        LabelOrder x = made("points 1");
        int[] least = {1, 1, 0, 0, 0, 0, 0};
        for (int what = 0; what <= 6; what++) {
            due("count(" + what + ") of one point", x.count(what), least[what]);
        }
        x = made(LINE9 + ";rule 3");
        for (int i = 0; i < 17; i++) {
            x.relate(0, 8);
        }
        for (int i = 0; i < 100; i++) {
            x.sign(0);
        }
        int[] most = {9, 511, 36, 8, 3, 16, 400};
        for (int what = 0; what <= 6; what++) {
            due("count(" + what + ") of the most", x.count(what), most[what]);
        }
        due("the most edges", made("points 9;0<5;0<6;0<7;0<8;1<5;1<6;1<7;1<8;2<5;2<6;2<7;2<8;3<5;3<6;3<7;3<8;4<5;4<6;4<7;4<8").count(3), 20);
        x = made(LINE9);
        for (int p = 0; p < 8; p++) {
            x.drop(p);
        }
        int[] last = {9, 256, 0, 0, 0, 8, 0};
        for (int what = 0; what <= 6; what++) {
            due("count(" + what + ") of the last one", x.count(what), last[what]);
        }
    }

    private static void countOthers() {
        holds("Promise 45", "NONE for others (0 .. 4 without an ORDER: 0).");
        for (int what : new int[] {MIN, -2, -1, 7, 8, 32, MAX}) {
            due("count(" + what + ")", made(LINE9).count(what), -1);
            for (LabelOrder none : noOrders()) {
                due("no ORDER: count(" + what + ")", none.count(what), -1);
            }
        }
        for (LabelOrder none : noOrders()) {
            for (int what = 0; what <= 5; what++) {
                due("no ORDER: count(" + what + ")", none.count(what), 0);
            }
        }
        due("no ORDER: signs of the tape", told("points 3;0<1").count(6), 12);
    }

    // ---- all that asks

    /** All calls that ask, with numbers from -1 to 9, few enough for one object. */
    private static void ask(LabelOrder x, int from) {
        for (int i = from; i < from + 4; i++) {
            int a = i - 1;
            int b = 9 - i;
            throwsOf(x, a, 2);
            x.label(a, b);
            x.height(a);
            x.join(a, b);
            x.meet(a, b);
            x.kind(a);
            x.width();
            x.ideals();
            x.extensions();
            x.extension(a);
            x.interval(0, 8);
            x.chains(0, 8, a);
            x.point(0, 8, a, 1);
            x.labelOf(0, 8, a, 1);
            x.falls(0, 8, a);
            x.falling(0, 8, 2 * b);
            x.flag(0, 8, 2 * b, i % 2 == 0);
            x.lexed();
            x.moebius(0, b);
            x.whitney(0, a, i % 2);
            x.zeta(0, 8, 1000);
            x.steps(0, 8, a);
            x.faces(0, 8, a);
            x.holes(0, 8, a, 3);
            x.shelled(0, 8);
            x.crease(0, 8, a);
            x.creased(0, 8, a);
            x.without(0, 8, a);
            x.counted(0, b);
            x.core(a);
            x.selves();
            x.like(i % 2);
            x.count(a);
            x.fault(i % 2);
        }
    }

    private static void asksChangeNothing() {
        holds("Not promised", "Nothing is promised beyond the answers and state changes described above");
        for (int from = 0; from < 11; from += 4) {
            int first = from;
            sameAs("what asks changes nothing", TakenBoundaryTest::busy, o -> ask(o, first));
            sameAs("what asks changes nothing", LabelOrder::new, o -> ask(o, first));
        }
    }
}

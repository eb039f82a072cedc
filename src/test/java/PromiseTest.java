/** Each promise by hand: ordinary inputs, the edges that the document names, and wrong inputs. */
public final class PromiseTest extends Cases {
    private static final int[] ODD = {MIN, -3, -2, -1, 9, 10, 31, 32, 33, 512, MAX};

    public static void main(String[] args) {
        newObject();
        tape();
        order();
        faults();
        acts();
        undoing();
        keeping();
        points();
        bounds();
        kinds();
        rows();
        chains();
        flags();
        lexed();
        moebius();
        zeta();
        faces();
        shells();
        takenAway();
        selves();
        counts();
        end();
    }

    private static void newObject() {
        promise(1);
        LabelOrder x = new LabelOrder();
        due("NONE", LabelOrder.NONE, -1);
        for (int what = 0; what <= 6; what++) {
            due("count(" + what + ")", x.count(what), 0);
        }
        due("relate", x.relate(0, 1), -1);
        due("lift", x.lift(0, 1, 1), -1);
        due("rule", x.rule(0), -1);
        due("drop", x.drop(0), -1);
        due("undo", x.undo(), -1);
        due("keep", x.keep(0), false);
        due("again", x.again(0), false);
        due("of throws", throwsOf(x, 0, 0), true);
        due("label", x.label(0, 1), -1);
        due("height", x.height(0), -1);
        due("join", x.join(0, 0), -1);
        due("meet", x.meet(0, 0), -1);
        due("kind", x.kind(0), -1);
        due("width", x.width(), -1);
        due("ideals", x.ideals(), -1);
        due("extensions", x.extensions(), -1);
        due("extension", x.extension(0), -1);
        due("interval", x.interval(0, 0), -1);
        due("chains", x.chains(0, 0, 0), -1);
        due("point", x.point(0, 0, 0, 0), -1);
        due("labelOf", x.labelOf(0, 0, 0, 0), -1);
        due("falls", x.falls(0, 0, 0), -1);
        due("falling", x.falling(0, 0, 0), -1);
        due("flag", x.flag(0, 0, 0, false), MIN);
        due("lexed", x.lexed(), -2);
        due("moebius", x.moebius(0, 0), MIN);
        due("whitney", x.whitney(0, 0, 0), MIN);
        due("zeta", x.zeta(0, 0, 1), -1);
        due("steps", x.steps(0, 0, 0), -1);
        due("faces", x.faces(0, 1, 0), -1);
        due("holes", x.holes(0, 1, 0, 2), -1);
        due("shelled", x.shelled(0, 1), -3);
        due("crease", x.crease(0, 1, 0), -1);
        due("creased", x.creased(0, 1, 0), -1);
        due("without", x.without(0, 2, 1), MIN);
        due("counted", x.counted(0, 0), -1);
        due("core", x.core(-1), -3);
        due("core", x.core(0), -3);
        due("selves", x.selves(), -1);
        due("like", x.like(0), -1);
    }

    private static void tape() {
        promise(2);
        LabelOrder x = new LabelOrder();
        due("sign", x.sign('p' << 24 | 'o' << 16 | 'i' << 8 | 'n'), 4);
        due("sign", x.sign('t' << 24 | 's' << 16 | '1' << 8 | ' '), 8);
        due("order: the highest byte first", x.order(), 1);
        for (int i = 1; i <= 100; i++) {
            due("sign " + i, x.sign(-1), 4 * i);
        }
        due("sign: 404", x.sign(0), -1);
        due("count(6)", x.count(6), 400);
        due("end(397)", x.end(397), true);
        due("sign: 401", x.sign(0), -1);
        due("count(6): none came", x.count(6), 397);
        due("end(396)", x.end(396), true);
        due("sign: 400", x.sign(0), 400);

        promise(3);
        x = new LabelOrder();
        due("end(0) of none", x.end(0), true);
        due("end(1) of none", x.end(1), false);
        tell(x, "points 37");
        due("end(-1)", x.end(-1), false);
        due("end(MIN)", x.end(MIN), false);
        due("end(10)", x.end(10), false);
        due("end(MAX)", x.end(MAX), false);
        due("count(6)", x.count(6), 9);
        due("end(9)", x.end(9), true);
        due("end(8)", x.end(8), true);
        due("end(9) then", x.end(9), false);
        due("order", x.order(), 1);
        due("count(0): the first signs alone", x.count(0), 3);
    }

    private static void order() {
        promise(4);
        fine("points 1", 1);
        fine("points 9", 1);
        fine("points 09;rule 03;00<01;label 00 01 07", 4);
        fine(" \n points\n\n4 ; 0<1 <2\n< 3 ;rule 0; label 0 1 99 ; 1 < 3 \n", 5);
        fine("points2;label0 1 0;0<1", 3);
        fine(SQUARE, 7);

        LabelOrder x = made("points 3;rule 2;label 0 1 5;label 0 1 6;0<1<2");
        due("count(0)", x.count(0), 3);
        due("count(2)", x.count(2), 3);
        due("count(4)", x.count(4), 2);
        due("the last label counts", x.lift(0, 1, 7), 6);
        due("keep", x.keep(1), true);
        tell(x, "points 3;0<1;label 0 1 2;1<0");
        due("order with a fault", x.order(), -1);
        due("count(6): empty then", x.count(6), 0);
        due("count(2) stays", x.count(2), 3);
        due("count(4) stays", x.count(4), 2);
        due("count(5) stays", x.count(5), 1);
        due("lift: labels stay", x.lift(0, 1, 8), 7);
        due("like(1): kept stays", x.like(1), 1);
        tell(x, "points 2");
        due("order", x.order(), 1);
        due("count(0)", x.count(0), 2);
        due("count(2)", x.count(2), 0);
        due("count(4): no rule, 0", x.count(4), 0);
        due("count(5): none to undo", x.count(5), 0);
        due("undo", x.undo(), -2);
        due("like(1): nothing kept", x.like(1), -1);
        due("again(1): nothing kept", x.again(1), false);
        due("lift: no labels", x.lift(0, 1, 1), 0);
    }

    private static void faults() {
        promise(5);
        LabelOrder x = new LabelOrder();
        due("fault(0) ahead of any", x.fault(0), 0);
        due("fault(1) ahead of any", x.fault(1), -1);
        for (int what : new int[] {-1, 2, 3, MIN, MAX}) {
            due("fault(" + what + ")", x.fault(what), -1);
        }
        tell(x, "points 0");
        x.order();
        due("fault(0)", x.fault(0), 2);
        due("fault(1)", x.fault(1), 7);
        tell(x, "points 1");
        x.order();
        due("fault(0) without", x.fault(0), 0);
        due("fault(1) without", x.fault(1), -1);

        faulty("", 1, 0);
        faulty(" \n ", 1, 3);
        faulty("points 3;", 1, 9);
        faulty("points 3; \n", 1, 11);
        faulty("points 3;;0<1", 1, 9);
        faulty("points", 1, 6);
        faulty("points ;", 1, 7);
        faulty("points rule", 1, 7);
        faulty("points 3 4", 1, 9);
        faulty("points 3 rule 1", 1, 9);
        faulty("pointsrule 3", 1, 0);
        faulty("point 3", 1, 0);
        faulty("pointsz 3", 1, 0);
        faulty("apoints 3", 1, 0);
        faulty("points`3", 1, 6);
        faulty("points{3", 1, 6);
        faulty("points/3", 1, 6);
        faulty("points 3:", 1, 8);
        faulty("Points 3", 1, 0);
        faulty("points 3;0", 1, 10);
        faulty("points 3;0 1", 1, 11);
        faulty("points 3;0<", 1, 11);
        faulty("points 3;0<;", 1, 11);
        faulty("points 3;0<<1", 1, 11);
        faulty("points 3;0<1 2", 1, 13);
        faulty("points 3;0<1>2", 1, 12);
        faulty("points 3;<1", 1, 9);
        faulty("points 3;rule", 1, 13);
        faulty("points 3;rule <", 1, 14);
        faulty("points 3;label 0 1", 1, 18);
        faulty("points 3;label 0 1;", 1, 18);
        faulty("points 3;label 0 1 2 3", 1, 21);
        faulty("points 3;label 0<1", 1, 16);
        faulty("points\t3", 1, 6);
        faulty("points 3" + (char) 0, 1, 8);
        faulty("points 3" + (char) 160, 1, 8);
        faulty("points 3\r", 1, 8);

        faulty("points 10", 2, 7);
        faulty("points 001", 2, 7);
        faulty("points 99999999999999999999", 2, 7);
        faulty("points 3;rule 4", 2, 14);
        faulty("points 3;rule 000", 2, 14);
        faulty("points 3;3<1", 2, 9);
        faulty("points 3;000<1", 2, 9);
        faulty("points 3;0<3", 2, 11);
        faulty("points 3;0<001", 2, 11);
        faulty("points 3;label 3 1 1", 2, 15);
        faulty("points 3;label 1 3 1", 2, 17);
        faulty("points 3;label 1 1 1", 2, 17);
        faulty("points 3;label 1 01 1", 2, 17);
        faulty("points 3;label 0 1 100", 2, 19);
        faulty("points 3;label 0 1 099", 2, 19);
        faulty("points 3;4294967296<1", 2, 9);

        faulty("rule 1;points 3", 3, 0);
        faulty(" 0<1", 3, 1);
        faulty("777<1", 3, 0);
        faulty("label 0 1 1", 3, 0);
        faulty("points 3;points 3", 3, 9);
        faulty("points 3;points x", 3, 9);
        faulty("points 3;0<1;points 3", 3, 13);
        faulty("points 3;rule 1;rule 1", 3, 16);
        faulty("points 3;rule 1;0<1;rule", 3, 20);

        faulty("points 3;0<0", 4, 11);
        faulty("points 3;0<1<0", 4, 13);
        faulty("points 3;0<1;1<2; 2 < 0", 4, 22);
        faulty("points 4;0<1;2<3;1<2;3<0", 4, 23);
        faulty("points 3;0<1<1 x", 4, 13);
    }

    private static void acts() {
        promise(6);
        LabelOrder x = made("points 5;0<1;2<3");
        due("relate", x.relate(1, 2), 6);
        due("relate again", x.relate(1, 2), 6);
        due("relate what follows", x.relate(0, 3), 6);
        due("count(5): they are acts", x.count(5), 3);
        due("relate back", x.relate(3, 0), -2);
        due("relate one", x.relate(4, 4), -2);
        due("relate", x.relate(4, 0), 10);
        due("of(4, 0)", x.of(4, 0), 15);
        due("count(5)", x.count(5), 4);
        due("drop(1)", x.drop(1), 4);
        due("relate a dropped one", x.relate(1, 4), -1);
        due("relate: pairs that are there", x.relate(4, 3), 6);
        for (int odd : ODD) {
            due("relate(" + odd + ", 0)", x.relate(odd, 0), -1);
            due("relate(0, " + odd + ")", x.relate(0, odd), -1);
        }
        due("relate(5, 0)", x.relate(5, 0), -1);
        due("relate(5, 5)", x.relate(5, 5), -1);

        promise(7);
        x = made("points 4;0<1;2<3;label 0 1 7");
        due("lift", x.lift(0, 1, 99), 7);
        due("label", x.label(0, 1), 99);
        due("lift", x.lift(0, 1, 0), 99);
        due("lift what is no edge", x.lift(0, 3, 5), 0);
        due("lift the other way round: another one", x.lift(1, 0, 6), 0);
        due("label", x.label(0, 1), 0);
        due("lift one", x.lift(1, 1, 1), -1);
        due("lift 100", x.lift(0, 1, 100), -1);
        due("lift -1", x.lift(0, 1, -1), -1);
        due("count(5)", x.count(5), 4);
        due("rule", x.rule(1), 0);
        due("lift tells what was told", x.lift(0, 1, 4), 0);
        due("lift tells what was told", x.lift(0, 1, 4), 4);
        x.drop(3);
        due("lift a dropped one", x.lift(0, 3, 5), -1);
        for (int odd : ODD) {
            due("lift(" + odd + ", 0)", x.lift(odd, 0, 1), -1);
            due("lift(0, " + odd + ")", x.lift(0, odd, 1), -1);
        }

        promise(8);
        x = made("points 8;rule 3;7<2;label 7 2 50");
        due("label by 3", x.label(7, 2), 5);
        due("rule", x.rule(2), 3);
        due("label by 2", x.label(7, 2), 7);
        due("rule", x.rule(1), 2);
        due("label by 1", x.label(7, 2), 2);
        due("rule", x.rule(0), 1);
        due("label by 0", x.label(7, 2), 50);
        due("rule of the same", x.rule(0), 0);
        due("rule 4", x.rule(4), -1);
        due("rule -1", x.rule(-1), -1);
        due("count(5)", x.count(5), 4);

        promise(9);
        x = made("points 4;0<1<2<3");
        due("drop", x.drop(1), 3);
        due("drop again", x.drop(1), -1);
        due("of(0, 0): those below stay below", x.of(0, 0), 12);
        due("of(0, 2)", x.of(0, 2), 4);
        due("label(0, 2)", x.label(0, 2), 0);
        due("count(0)", x.count(0), 4);
        due("count(1)", x.count(1), 13);
        due("drop", x.drop(0), 2);
        due("drop", x.drop(2), 1);
        due("drop the last", x.drop(3), -2);
        due("drop(4)", x.drop(4), -1);
        due("count(5)", x.count(5), 3);
        for (int odd : ODD) {
            due("drop(" + odd + ")", x.drop(odd), -1);
        }
    }

    private static void undoing() {
        promise(10);
        LabelOrder x = made("points 4;0<1;2<3;label 0 1 7");
        due("undo none", x.undo(), -2);
        x.relate(1, 2);
        x.lift(0, 1, 9);
        x.rule(2);
        x.drop(1);
        x.relate(0, 0);
        due("undo drop", x.undo(), 3);
        due("count(1)", x.count(1), 15);
        due("count(2)", x.count(2), 6);
        due("count(4)", x.count(4), 2);
        due("undo rule", x.undo(), 2);
        due("count(4)", x.count(4), 0);
        due("label", x.label(0, 1), 9);
        due("undo lift", x.undo(), 1);
        due("label", x.label(0, 1), 7);
        due("undo relate", x.undo(), 0);
        due("count(2)", x.count(2), 2);
        due("undo none", x.undo(), -2);

        for (int v = 1; v <= 20; v++) {
            x.lift(2, 3, v);
            due("count(5)", x.count(5), Math.min(v, 16));
        }
        for (int left = 15; left >= 0; left--) {
            due("undo", x.undo(), left);
            due("label", x.label(2, 3), left + 4);
        }
        due("undo no more", x.undo(), -2);
        due("label: the oldest stay done", x.label(2, 3), 4);
        x.rule(0);
        x.rule(0);
        due("undo what changed nothing", x.undo(), 1);
    }

    private static void keeping() {
        promise(11);
        LabelOrder x = made("points 4;0<1;2<3;label 0 1 7");
        due("keep(0)", x.keep(0), true);
        due("keep(2)", x.keep(2), false);
        due("keep(-1)", x.keep(-1), false);
        due("keep(MAX)", x.keep(MAX), false);
        due("keep is no act", x.count(5), 0);

        promise(12);
        due("again(1): nothing kept", x.again(1), false);
        due("again(2)", x.again(2), false);
        due("again(-1)", x.again(-1), false);
        x.relate(1, 2);
        x.lift(0, 1, 8);
        x.rule(1);
        x.drop(0);
        due("keep(1)", x.keep(1), true);
        due("again(0)", x.again(0), true);
        due("count(1)", x.count(1), 15);
        due("count(2)", x.count(2), 2);
        due("count(4)", x.count(4), 0);
        due("label", x.label(0, 1), 7);
        due("count(5): an act", x.count(5), 5);
        x.lift(0, 1, 3);
        due("again(0) twice", x.again(0), true);
        due("label as kept", x.label(0, 1), 7);
        x.undo();
        due("label", x.label(0, 1), 3);
        x.undo();
        due("undo again", x.undo(), 4);
        due("count(1)", x.count(1), 14);
        due("count(2)", x.count(2), 3);
        due("count(4)", x.count(4), 1);
        due("again(1)", x.again(1), true);
        due("count(1)", x.count(1), 14);
        due("undo all", x.undo() + x.undo() + x.undo() + x.undo() + x.undo(), 4 + 3 + 2 + 1);
        due("again(1): kept yet", x.again(1), true);
        due("count(2)", x.count(2), 3);
        due("keep(0) anew", x.keep(0), true);
        x.undo();
        x.again(0);
        due("count(1) kept anew", x.count(1), 14);
    }

    private static void points() {
        promise(13);
        LabelOrder x = made(PENTAGON);
        due("of(0, 0)", x.of(0, 0), 30);
        due("of(4, 0)", x.of(4, 0), 0);
        due("of(4, 1)", x.of(4, 1), 15);
        due("of(2, 1)", x.of(2, 1), 3);
        due("of(0, 2)", x.of(0, 2), 10);
        due("of(1, 2)", x.of(1, 2), 4);
        due("of(4, 3)", x.of(4, 3), 12);
        due("of(0, 3)", x.of(0, 3), 0);
        due("of(0, 4) throws", throwsOf(x, 0, 4), true);
        due("of(0, -1) throws", throwsOf(x, 0, -1), true);
        due("of(5, 0) throws", throwsOf(x, 5, 0), true);
        for (int odd : ODD) {
            due("of(" + odd + ", 0) throws", throwsOf(x, odd, 0), true);
            due("of(0, " + odd + ") throws", throwsOf(x, 0, odd), true);
        }
        x.drop(2);
        due("of(2, 0) throws", throwsOf(x, 2, 0), true);
        due("of(1, 2)", x.of(1, 2), 16);
        due("of(4, 1)", x.of(4, 1), 11);

        promise(14);
        x = made("points 5;0<1<2<4;0<3<4;label 0 1 3;label 1 2 98;label 0 2 5;label 4 2 6");
        due("label(0, 1)", x.label(0, 1), 3);
        due("label(1, 2)", x.label(1, 2), 98);
        due("label(0, 2)", x.label(0, 2), -2);
        due("label(1, 0)", x.label(1, 0), -2);
        due("label(1, 1)", x.label(1, 1), -2);
        due("label(2, 4) without", x.label(2, 4), 0);
        due("label(1, 3)", x.label(1, 3), -2);
        due("label(0, 5)", x.label(0, 5), -1);
        for (int odd : ODD) {
            due("label(" + odd + ", 1)", x.label(odd, 1), -1);
            due("label(0, " + odd + ")", x.label(0, odd), -1);
        }
        x.drop(1);
        due("label(0, 2) then", x.label(0, 2), 5);
        due("label(0, 1) then", x.label(0, 1), -1);

        promise(15);
        x = made(PENTAGON);
        int[] heights = {0, 1, 2, 1, 3};
        for (int p = 0; p < 5; p++) {
            due("height(" + p + ")", x.height(p), heights[p]);
        }
        due("height(5)", x.height(5), -1);
        x.drop(1);
        due("height(4)", x.height(4), 2);
        due("height(1)", x.height(1), -1);
        due("height(8)", made(LINE9).height(8), 8);
        for (int odd : ODD) {
            due("height(" + odd + ")", x.height(odd), -1);
        }
    }

    private static void bounds() {
        promise(16);
        LabelOrder x = made(CROWN);
        due("join(0, 1)", x.join(0, 1), -2);
        due("join(2, 3)", x.join(2, 3), -2);
        due("join(0, 2)", x.join(0, 2), 2);
        due("join(2, 0)", x.join(2, 0), 2);
        due("join(1, 1)", x.join(1, 1), 1);
        due("join(0, 4)", x.join(0, 4), -1);
        due("join(-1, 0)", x.join(-1, 0), -1);
        x.drop(3);
        due("join(0, 1)", x.join(0, 1), 2);
        due("join(0, 3)", x.join(0, 3), -1);
        due("join of the pentagon", made(PENTAGON).join(1, 3), 4);

        promise(17);
        x = made(CROWN);
        due("meet(2, 3)", x.meet(2, 3), -2);
        due("meet(0, 1)", x.meet(0, 1), -2);
        due("meet(0, 2)", x.meet(0, 2), 0);
        due("meet(3, 3)", x.meet(3, 3), 3);
        due("meet(4, 0)", x.meet(4, 0), -1);
        due("meet(0, MAX)", x.meet(0, MAX), -1);
        x.drop(0);
        due("meet(2, 3)", x.meet(2, 3), 1);
        due("meet(2, 0)", x.meet(2, 0), -1);
        due("meet of the pentagon", made(PENTAGON).meet(2, 3), 0);
    }

    private static void kind(String text, int... wants) {
        LabelOrder x = made(text);
        for (int what = 0; what < wants.length; what++) {
            due("kind(" + what + ") of " + text, x.kind(what), wants[what]);
        }
        due("kind(-1)", x.kind(-1), -1);
        due("kind(6)", x.kind(6), -1);
        due("kind(MAX)", x.kind(MAX), -1);
    }

    private static void kinds() {
        promise(18);
        kind("points 1", 1, 1, 1, 1, 1, 1);
        kind("points 2", 0, 1, 0, 0, 0, 0);
        kind(SQUARE, 1, 1, 1, 1, 1, 0);
        kind(PENTAGON, 1, 0, 1, 0, 0, 0);
        kind(DIAMOND, 1, 1, 1, 0, 1, 0);
        kind(CUBE, 1, 1, 1, 1, 1, 0);
        kind(CROWN, 0, 1, 0, 0, 0, 0);
        kind(LINE9, 1, 1, 1, 1, 1, 1);
        kind("points 6;0<1;0<2;1<3;1<4;2<3;2<4;3<5;4<5", 1, 1, 0, 0, 0, 0);
        kind("points 5;0<1<2<4;0<3<4;0<4", 1, 0, 1, 0, 0, 0);
        kind("points 3;0<1;0<2", 0, 1, 0, 0, 0, 0);
        LabelOrder x = made(PENTAGON);
        x.drop(2);
        due("kind(1) then", x.kind(1), 1);
        due("kind(3) then", x.kind(3), 1);
        x.drop(4);
        due("kind(0) then", x.kind(0), 0);
    }

    private static void rows() {
        promise(19);
        due("width", made("points 9").width(), 9);
        due("width", made(LINE9).width(), 1);
        due("width", made(CUBE).width(), 3);
        due("width", made(PENTAGON).width(), 2);
        LabelOrder x = made(DIAMOND);
        x.drop(1);
        due("width then", x.width(), 2);

        promise(20);
        due("ideals", made("points 9").ideals(), 512);
        due("ideals", made(LINE9).ideals(), 10);
        due("ideals", made(CUBE).ideals(), 20);
        due("ideals", made(CROWN).ideals(), 7);
        due("ideals", x.ideals(), 6);

        promise(21);
        due("extensions", made("points 9").extensions(), 362880);
        due("extensions", made(LINE9).extensions(), 1);
        due("extensions", made(CUBE).extensions(), 48);
        due("extensions", made(CROWN).extensions(), 4);
        due("extensions", x.extensions(), 2);

        promise(22);
        x = made("points 5;4<0;3<1;1<0");
        int[] row = {2, 3, 1, 4, 0};
        for (int i = 0; i < 5; i++) {
            due("extension(" + i + ")", x.extension(i), row[i]);
        }
        due("extension(5)", x.extension(5), -1);
        due("extension(-1)", x.extension(-1), -1);
        due("extension(MIN)", x.extension(MIN), -1);
        due("extension(MAX)", x.extension(MAX), -1);
        x.drop(2);
        due("extension(0)", x.extension(0), 3);
        due("extension(4)", x.extension(4), -1);
    }

    private static void wrongIntervals(LabelOrder x) {
        for (int odd : ODD) {
            for (int turn = 0; turn < 2; turn++) {
                int a = turn == 0 ? odd : 0;
                int b = turn == 0 ? 0 : odd;
                String pair = "(" + a + ", " + b + ")";
                due("interval" + pair, x.interval(a, b), -1);
                due("chains" + pair, x.chains(a, b, 0), -1);
                due("point" + pair, x.point(a, b, 0, 0), -1);
                due("labelOf" + pair, x.labelOf(a, b, 0, 0), -1);
                due("falls" + pair, x.falls(a, b, 0), -1);
                due("falling" + pair, x.falling(a, b, 0), -1);
                due("flag" + pair, x.flag(a, b, 0, false), MIN);
                due("moebius" + pair, x.moebius(a, b), MIN);
                due("zeta" + pair, x.zeta(a, b, 1), -1);
                due("steps" + pair, x.steps(a, b, 0), -1);
                due("faces" + pair, x.faces(a, b, 0), -1);
                due("holes" + pair, x.holes(a, b, 0, 2), -1);
                due("shelled" + pair, x.shelled(a, b), -3);
                due("crease" + pair, x.crease(a, b, 0), -1);
                due("creased" + pair, x.creased(a, b, 0), -1);
                due("without" + pair, x.without(a, b, 1), MIN);
                due("counted" + pair, x.counted(a, b), -1);
            }
        }
    }

    private static void noInterval(LabelOrder x, int a, int b) {
        due("interval", x.interval(a, b), -2);
        due("chains", x.chains(a, b, 0), -2);
        due("chains of another what", x.chains(a, b, 5), -1);
        due("point", x.point(a, b, 0, 0), -2);
        due("labelOf", x.labelOf(a, b, 0, 0), -2);
        due("falls", x.falls(a, b, 0), -2);
        due("falling", x.falling(a, b, 0), -2);
        due("falling of another set", x.falling(a, b, 1), -1);
        due("flag", x.flag(a, b, 0, false), MIN);
        due("moebius", x.moebius(a, b), MIN);
        due("zeta", x.zeta(a, b, 1), -2);
        due("zeta of another n", x.zeta(a, b, 0), -1);
        due("steps", x.steps(a, b, 1), -2);
        due("steps of another k", x.steps(a, b, -1), -1);
        due("faces", x.faces(a, b, 0), -2);
        due("faces of another d", x.faces(a, b, -2), -1);
        due("holes", x.holes(a, b, 0, 2), -2);
        due("holes of another p", x.holes(a, b, 0, 9), -1);
        due("shelled", x.shelled(a, b), -2);
        due("crease", x.crease(a, b, 0), -2);
        due("creased", x.creased(a, b, 0), -2);
        due("creased of another k", x.creased(a, b, -1), -1);
        due("without", x.without(a, b, 1), MIN);
        due("counted", x.counted(a, b), -2);
    }

    private static void chains() {
        promise(23);
        LabelOrder x = made(CUBE);
        wrongIntervals(x);
        noInterval(x, 7, 0);
        noInterval(x, 1, 2);
        due("interval(0, 7)", x.interval(0, 7), 255);
        due("interval(1, 7)", x.interval(1, 7), 1 << 1 | 1 << 3 | 1 << 5 | 1 << 7);
        due("interval(3, 3)", x.interval(3, 3), 8);
        x.drop(3);
        due("interval(1, 7)", x.interval(1, 7), 1 << 1 | 1 << 5 | 1 << 7);
        due("interval(1, 3)", x.interval(1, 3), -1);

        promise(24);
        x = made(CUBE);
        int[] wants = {6, 1, 1, 3, 3};
        for (int what = 0; what < 5; what++) {
            due("chains(0, 7, " + what + ")", x.chains(0, 7, what), wants[what]);
        }
        due("chains(0, 7, -1)", x.chains(0, 7, -1), -1);
        due("chains(0, 7, 5)", x.chains(0, 7, 5), -1);
        due("chains(2, 2, 0)", x.chains(2, 2, 0), 1);
        due("chains(2, 2, 1)", x.chains(2, 2, 1), 1);
        due("chains(2, 2, 2)", x.chains(2, 2, 2), 1);
        due("chains(2, 2, 3)", x.chains(2, 2, 3), 0);
        due("chains(2, 2, 4)", x.chains(2, 2, 4), 0);
        due("chains(0, 1, 1)", x.chains(0, 1, 1), 1);
        due("chains(0, 1, 2)", x.chains(0, 1, 2), 1);
        LabelOrder flat = made(PENTAGON);
        due("like labels rise", flat.chains(0, 4, 1), 2);
        due("like labels do not fall", flat.chains(0, 4, 2), 0);
        due("longest", flat.chains(0, 4, 3), 3);
        due("shortest", flat.chains(0, 4, 4), 2);
        due("twelve", made(TWELVE).chains(0, 8, 0), 12);
        due("four by three", made("points 9;0<1<5<8;0<2<5;0<3<5;0<4<5;1<6<8;2<6;3<6;4<6;1<7<8;2<7;3<7;4<7")
                .chains(0, 8, 0), 12);
        due("one of eight steps", made(LINE9).chains(0, 8, 4), 8);

        promise(25);
        int[][] points = {{0, 1, 3, 7}, {0, 1, 5, 7}, {0, 2, 3, 7}, {0, 2, 6, 7}, {0, 4, 5, 7}, {0, 4, 6, 7}};
        int[][] labels = {{1, 2, 3}, {1, 3, 2}, {2, 1, 3}, {2, 3, 1}, {3, 1, 2}, {3, 2, 1}};
        for (int i = 0; i < 6; i++) {
            for (int k = 0; k < 4; k++) {
                promise(25);
                due("point(0, 7, " + i + ", " + k + ")", x.point(0, 7, i, k), points[i][k]);
                promise(26);
                due("labelOf(0, 7, " + i + ", " + k + ")", x.labelOf(0, 7, i, k), k < 3 ? labels[i][k] : -2);
            }
        }
        promise(25);
        due("what ends first is ahead", flat.point(0, 4, 0, 1), 3);
        LabelOrder twelve = made(TWELVE);
        due("point(0, 8, 11, 1)", twelve.point(0, 8, 11, 1), 3);
        due("point(0, 8, 11, 2)", twelve.point(0, 8, 11, 2), 5);
        due("point(0, 8, 11, 3)", twelve.point(0, 8, 11, 3), 7);
        due("point(0, 8, 12, 0)", twelve.point(0, 8, 12, 0), -2);
        twelve.rule(0);
        due("of like labels by points", twelve.point(0, 8, 1, 3), 7);
        due("of like labels by points", twelve.point(0, 8, 4, 1), 2);
        due("point(2, 2, 0, 0)", x.point(2, 2, 0, 0), 2);
        due("point(2, 2, 0, 1)", x.point(2, 2, 0, 1), -2);
        for (int odd : new int[] {MIN, -1, 6, MAX}) {
            due("point of another i", x.point(0, 7, odd, 0), -2);
            due("point of another k", x.point(0, 7, 0, odd), -2);
            promise(26);
            due("labelOf of another i", x.labelOf(0, 7, odd, 0), -2);
            due("labelOf of another k", x.labelOf(0, 7, 0, odd), -2);
            promise(27);
            due("falls of another i", x.falls(0, 7, odd), -2);
        }
        promise(26);
        due("labelOf(2, 2, 0, 0)", x.labelOf(2, 2, 0, 0), -2);

        promise(27);
        int[] falls = {0, 4, 2, 4, 2, 6};
        for (int i = 0; i < 6; i++) {
            due("falls(0, 7, " + i + ")", x.falls(0, 7, i), falls[i]);
        }
        due("falls(2, 2, 0)", x.falls(2, 2, 0), 0);
        due("falls of like labels", flat.falls(0, 4, 1), 0);
        due("all eight fall", made("points 9;8<7<6<5<4<3<2<1<0;rule 1").falls(8, 0, 0), 254);

        promise(28);
        due("falling(0)", x.falling(0, 7, 0), 1);
        due("falling(2)", x.falling(0, 7, 2), 2);
        due("falling(4)", x.falling(0, 7, 4), 2);
        due("falling(6)", x.falling(0, 7, 6), 1);
        due("falling(8)", x.falling(0, 7, 8), 0);
        due("falling(510)", x.falling(0, 7, 510), 0);
        for (int odd : new int[] {MIN, -2, -1, 1, 3, 511, 512, 514, MAX}) {
            due("falling of another set", x.falling(0, 7, odd), -1);
            promise(29);
            due("flag of another set", x.flag(0, 7, odd, false), MIN);
            due("beta of another set", x.flag(0, 7, odd, true), MIN);
            promise(28);
        }
    }

    private static void flags() {
        promise(29);
        LabelOrder x = made(CUBE);
        int[] sets = {0, 2, 4, 6, 8, 510};
        int[] flags = {1, 3, 3, 6, 0, 0};
        int[] betas = {1, 2, 2, 1, -1, 1 - 3 - 3 + 6};
        for (int i = 0; i < sets.length; i++) {
            due("flag(0, 7, " + sets[i] + ")", x.flag(0, 7, sets[i], false), flags[i]);
            due("beta(0, 7, " + sets[i] + ")", x.flag(0, 7, sets[i], true), betas[i]);
        }
        due("flag(2, 2, 0)", x.flag(2, 2, 0, false), 1);
        due("flag(2, 2, 2)", x.flag(2, 2, 2, false), 0);
        due("beta(2, 2, 2)", x.flag(2, 2, 2, true), -1);
        due("beta(2, 2, 6)", x.flag(2, 2, 6, true), 1);
        x = made(PENTAGON);
        due("flag(0, 4, 2)", x.flag(0, 4, 2, false), 2);
        due("flag(0, 4, 4)", x.flag(0, 4, 4, false), 1);
        due("flag(0, 4, 6)", x.flag(0, 4, 6, false), 1);
        due("b is not inner", x.flag(0, 4, 8, false), 0);
        due("beta(0, 4, 6)", x.flag(0, 4, 6, true), 1 - 2 - 1 + 1);
        x = made("points 9;8<7<6<5<4<3<2<1<0");
        due("heights are over a", x.flag(6, 2, 14, false), 1);
        due("heights are over a", x.flag(6, 2, 16, false), 0);
    }

    private static void lexed() {
        promise(30);
        due("lexed cube", made(CUBE).lexed(), -1);
        due("lexed square", made(SQUARE).lexed(), -1);
        LabelOrder x = made(PENTAGON);
        due("two rise", x.lexed(), 4);
        x = made(SQUARE);
        x.lift(0, 1, 3);
        due("none rises", x.lexed(), 3);
        x = made("points 4;0<1<3;0<2<3;label 0 1 2;label 1 3 3;label 0 2 1;label 2 3 0");
        due("the one that rises is not the first", x.lexed(), 3);
        x = made("points 8;7<5<4;7<6<4;3<2<0;3<1<0;rule 0");
        due("the least such", x.lexed(), 30);
        x.drop(1);
        due("the next", x.lexed(), 74);
        due("lexed line", made(LINE9).lexed(), -1);
        due("lexed one point", made("points 1").lexed(), -1);
        LabelOrder line = made(LINE9);
        line.lift(3, 4, 50);
        due("lexed line with a fall: the least such", line.lexed(), 5);
    }

    private static void moebius() {
        promise(31);
        due("moebius cube", made(CUBE).moebius(0, 7), -1);
        due("moebius of one", made(CUBE).moebius(3, 3), 1);
        due("moebius of an edge", made(CUBE).moebius(0, 1), -1);
        due("moebius of a square", made(CUBE).moebius(0, 3), 1);
        due("moebius diamond", made(DIAMOND).moebius(0, 4), 2);
        due("moebius pentagon", made(PENTAGON).moebius(0, 4), 1);
        due("moebius line", made(LINE9).moebius(0, 8), 0);
        due("moebius twelve", made(TWELVE).moebius(0, 8), 2 * 1 * 1);
        LabelOrder x = made(DIAMOND);
        x.drop(2);
        due("moebius then", x.moebius(0, 4), 1);
        due("moebius of a dropped one", x.moebius(0, 2), MIN);

        promise(32);
        x = made(CUBE);
        int[] many = {1, 3, 3, 1, 0};
        int[] sum = {1, -3, 3, -1, 0};
        for (int k = 0; k < 5; k++) {
            due("whitney(0, " + k + ", 0)", x.whitney(0, k, 0), many[k]);
            due("whitney(0, " + k + ", 1)", x.whitney(0, k, 1), sum[k]);
        }
        due("whitney(1, 1, 0)", x.whitney(1, 1, 0), 2);
        due("whitney(1, 2, 1)", x.whitney(1, 2, 1), 1);
        due("whitney(7, 0, 0)", x.whitney(7, 0, 0), 1);
        due("whitney(0, MAX, 0)", x.whitney(0, MAX, 0), 0);
        due("whitney(0, -1, 0)", x.whitney(0, -1, 0), MIN);
        due("whitney(0, MIN, 0)", x.whitney(0, MIN, 0), MIN);
        due("whitney(0, 0, 2)", x.whitney(0, 0, 2), MIN);
        due("whitney(0, 0, -1)", x.whitney(0, 0, -1), MIN);
        for (int odd : ODD) {
            due("whitney(" + odd + ")", x.whitney(odd, 0, 0), MIN);
        }
        x.drop(1);
        due("whitney(1)", x.whitney(1, 0, 0), MIN);
        due("whitney of the pentagon", made(PENTAGON).whitney(0, 3, 1), 1);
        due("whitney of the crown", made(CROWN).whitney(0, 1, 1), -2);
    }

    private static void zeta() {
        promise(33);
        LabelOrder x = made(CUBE);
        due("zeta(0, 7, 1)", x.zeta(0, 7, 1), 1);
        due("zeta(0, 7, 2)", x.zeta(0, 7, 2), 8);
        due("zeta(0, 7, 3)", x.zeta(0, 7, 3), 27);
        due("zeta(0, 7, 1000)", x.zeta(0, 7, 1000), 1000000000L);
        due("zeta(3, 3, 1000)", x.zeta(3, 3, 1000), 1);
        due("zeta(0, 7, 0)", x.zeta(0, 7, 0), -1);
        due("zeta(0, 7, 1001)", x.zeta(0, 7, 1001), -1);
        due("zeta(0, 7, MIN)", x.zeta(0, 7, MIN), -1);
        x = made(LINE9);
        int last = 0;
        for (int n = 1; n <= 1000; n++) {
            if (n % 400 == 0) {
                x = made(LINE9);
            }
            java.math.BigInteger want = java.math.BigInteger.ONE;
            for (int k = 1; k <= 8; k++) {
                want = want.multiply(java.math.BigInteger.valueOf(n + 8 - k));
            }
            want = want.divide(java.math.BigInteger.valueOf(40320));
            boolean holds = want.bitLength() < 64;
            last = holds ? n : last;
            due("zeta(0, 8, " + n + ")", x.zeta(0, 8, n), holds ? want.longValueExact() : -3);
        }
        due("the last that a long can hold", last > 800 && last < 1000, true);
        due("zeta(0, 7, 1000) of the line", x.zeta(0, 7, 1000), 202614233457493000L);

        promise(34);
        x = made(CUBE);
        int[] steps = {0, 1, 6, 6, 0, 0, 0, 0, 0, 0};
        for (int k = 0; k < steps.length; k++) {
            due("steps(0, 7, " + k + ")", x.steps(0, 7, k), steps[k]);
        }
        due("steps(0, 7, MAX)", x.steps(0, 7, MAX), 0);
        due("steps(0, 7, -1)", x.steps(0, 7, -1), -1);
        due("steps(2, 2, 0)", x.steps(2, 2, 0), 1);
        due("steps(2, 2, 1)", x.steps(2, 2, 1), 0);
        due("steps(0, 8, 4)", made(LINE9).steps(0, 8, 4), 35);
        due("steps(0, 8, 8)", made(LINE9).steps(0, 8, 8), 1);
        due("steps(0, 8, 9)", made(LINE9).steps(0, 8, 9), 0);
    }

    private static void faces() {
        promise(35);
        LabelOrder x = made(CUBE);
        int[] faces = {1, 6, 6, 0};
        for (int d = -1; d < 3; d++) {
            due("faces(0, 7, " + d + ")", x.faces(0, 7, d), faces[d + 1]);
        }
        due("faces(0, 7, MAX)", x.faces(0, 7, MAX), 0);
        due("faces(0, 7, -2)", x.faces(0, 7, -2), -1);
        due("faces(0, 7, MIN)", x.faces(0, 7, MIN), -1);
        due("faces(2, 2, -1)", x.faces(2, 2, -1), -2);
        due("faces(0, 1, -1)", x.faces(0, 1, -1), 1);
        due("faces(0, 1, 0)", x.faces(0, 1, 0), 0);
        due("faces(0, 8, 6)", made(LINE9).faces(0, 8, 6), 1);
        due("faces(0, 8, 7)", made(LINE9).faces(0, 8, 7), 0);

        promise(36);
        int[] primes = {2, 3, 5, 7};
        for (int p : primes) {
            int[] cube = {0, 0, 1, 0};
            int[] diamond = {0, 2, 0, 0};
            int[] twelve = {0, 0, 0, 2};
            int[] line = {0, 0, 0, 0};
            for (int d = -1; d < 3; d++) {
                due("holes of the cube", made(CUBE).holes(0, 7, d, p), cube[d + 1]);
                due("holes of the diamond", made(DIAMOND).holes(0, 4, d, p), diamond[d + 1]);
                due("holes of twelve", made(TWELVE).holes(0, 8, d, p), twelve[d + 1]);
                due("holes of the line", made(LINE9).holes(0, 8, d, p), line[d + 1]);
            }
            for (int d = 3; d < 12; d++) {
                due("holes of the line", made(LINE9).holes(0, 8, d, p), 0);
            }
            due("holes of an edge", made(LINE9).holes(0, 1, -1, p), 1);
            due("holes of an edge", made(LINE9).holes(0, 1, 0, p), 0);
            due("holes of d MAX", x.holes(0, 7, MAX, p), 0);
            due("holes of d -2", x.holes(0, 7, -2, p), -1);
            due("holes of d MIN", x.holes(0, 7, MIN, p), -1);
            due("holes of a is b", x.holes(2, 2, 0, p), -2);
        }
        for (int p : new int[] {MIN, -2, -1, 0, 1, 4, 6, 8, 9, 11, MAX}) {
            due("holes of p " + p, x.holes(0, 7, 0, p), -1);
        }
    }

    private static void shells() {
        promise(37);
        LabelOrder x = made(CUBE);
        due("shelled cube", x.shelled(0, 7), -1);
        due("shelled(2, 2)", x.shelled(2, 2), -2);
        due("shelled of one chain", x.shelled(0, 1), -1);
        due("shelled(0, 8)", x.shelled(0, 8), -3);
        x.drop(3);
        due("shelled(0, 3)", x.shelled(0, 3), -3);
        LabelOrder apart = made("points 6;0<1<2<5;0<3<4<5");
        due("two chains that share no side", apart.shelled(0, 5), 1);
        LabelOrder later = made("points 7;rule 1;0<1<2<6;0<1<3<6;0<4<5<6");
        due("the third does not lie on a side", later.shelled(0, 6), 2);
        LabelOrder flat = made(PENTAGON);
        due("the shorter ahead of the longer: no", flat.shelled(0, 4), 1);
        flat.lift(0, 3, 1);
        due("the longer ahead of the shorter: so", flat.shelled(0, 4), -1);

        promise(38);
        x = made(CUBE);
        int[] creases = {0, 1 << 5, 1 << 2, 1 << 6, 1 << 4, 1 << 4 | 1 << 6};
        for (int i = 0; i < 6; i++) {
            due("crease(0, 7, " + i + ")", x.crease(0, 7, i), creases[i]);
        }
        due("crease(0, 7, 6)", x.crease(0, 7, 6), -2);
        due("crease(0, 7, -1)", x.crease(0, 7, -1), -2);
        due("crease(0, 7, MAX)", x.crease(0, 7, MAX), -2);
        due("crease(2, 2, 0)", x.crease(2, 2, 0), -2);
        due("crease(0, 1, 0)", x.crease(0, 1, 0), 0);
        due("crease of no side", apart.crease(0, 5, 1), 0);

        promise(39);
        int[] creased = {1, 4, 1, 0};
        for (int k = 0; k < 4; k++) {
            due("creased(0, 7, " + k + ")", x.creased(0, 7, k), creased[k]);
        }
        due("creased(0, 7, MAX)", x.creased(0, 7, MAX), 0);
        due("creased(0, 7, -1)", x.creased(0, 7, -1), -1);
        due("creased(2, 2, 0)", x.creased(2, 2, 0), -2);
        due("creased of no side", apart.creased(0, 5, 0), 2);
    }

    private static void takenAway() {
        promise(40);
        LabelOrder x = made(DIAMOND);
        due("without(0, 4, 2)", x.without(0, 4, 2), 1);
        due("without(0, 4, 0)", x.without(0, 4, 0), MIN);
        due("without(0, 4, 4)", x.without(0, 4, 4), MIN);
        due("without(0, 4, 5)", x.without(0, 4, 5), MIN);
        due("without(0, 0, 0)", x.without(0, 0, 0), MIN);
        for (int odd : ODD) {
            due("without " + odd, x.without(0, 4, odd), MIN);
        }
        due("moebius stays", x.moebius(0, 4), 2);
        x.drop(2);
        due("without a dropped one", x.without(0, 4, 2), MIN);
        due("without(0, 4, 1)", x.without(0, 4, 1), 0);
        LabelOrder line = made("points 3;0<1<2");
        due("without the only one", line.without(0, 2, 1), -1);
        due("not inner", made(CUBE).without(0, 3, 4), MIN);
        due("of the pentagon", made(PENTAGON).without(0, 4, 1), 1);

        promise(41);
        due("counted diamond", made(DIAMOND).counted(0, 4), 14);
        due("counted pentagon", made(PENTAGON).counted(0, 4), 8);
        due("counted line", made(LINE9).counted(0, 8), 0);
        due("counted(0, 2)", line.counted(0, 2), 2);
        due("counted of an edge", line.counted(0, 1), 0);
        due("counted of one", line.counted(1, 1), 0);
        due("counted dropped", x.counted(0, 2), -1);

        promise(42);
        x = made(SQUARE);
        int[] taken = {1, 0, 2, -2, -2};
        for (int i = 0; i < taken.length; i++) {
            due("core(" + i + ")", x.core(i), taken[i]);
        }
        due("core(-1)", x.core(-1), 1);
        due("core(-2)", x.core(-2), -3);
        due("core(MIN)", x.core(MIN), -3);
        due("core(MAX)", x.core(MAX), -2);
        due("count(1) stays", x.count(1), 15);
        due("core of the crown", made(CROWN).core(-1), 4);
        due("core of the crown", made(CROWN).core(0), -2);
        due("core of points apart", made("points 9").core(-1), 9);
        due("core of the diamond", made(DIAMOND).core(-1), 1);
        LabelOrder tail = made("points 6;1<3;1<4;2<3;2<4;0<1;4<5");
        due("core(-1)", tail.core(-1), 4);
        due("core(0): below just one", tail.core(0), 0);
        due("core(1): over just one", tail.core(1), 4);
        due("core(2)", tail.core(2), -2);
    }

    private static void selves() {
        promise(43);
        due("selves", made("points 1").selves(), 1);
        due("selves", made("points 9").selves(), 362880);
        due("selves", made(LINE9).selves(), 1);
        due("selves", made(CUBE).selves(), 6);
        due("selves", made(CROWN).selves(), 4);
        due("selves", made(PENTAGON).selves(), 1);
        due("selves", made("points 8;0<1;2<3;4<5;6<7").selves(), 24);
        due("selves", made("points 6;0<3;0<4;1<4;1<5;2<5;2<3").selves(), 6);
        due("no two points go to one place", made("points 7;0<2;1<2;3<5;4<5;4<6").selves(), 2);
        LabelOrder x = made(CUBE);
        x.drop(0);
        x.drop(1);
        due("selves then", x.selves(), 2);

        promise(44);
        x = made(PENTAGON);
        due("like(0): nothing kept", x.like(0), -1);
        x.keep(0);
        due("like(0)", x.like(0), 1);
        due("like(1)", x.like(1), -1);
        due("like(2)", x.like(2), -1);
        due("like(-1)", x.like(-1), -1);
        due("like(MIN)", x.like(MIN), -1);
        x.rule(3);
        x.lift(0, 1, 5);
        due("what is below alone", x.like(0), 1);
        x.relate(2, 3);
        due("another one", x.like(0), 0);
        x.undo();
        x.drop(3);
        due("fewer points", x.like(0), 0);
        x.keep(1);
        x.undo();
        x.drop(1);
        due("as many points", x.like(1), 0);
        x.relate(2, 3);
        due("other points, like", x.like(1), 1);
        LabelOrder five = made("points 5;0<2;1<2");
        five.relate(1, 3);
        five.keep(0);
        five.undo();
        due("no two points go to one place", five.like(0), 0);
        LabelOrder six = made("points 6;0<3;0<4;1<4;1<5;2<5;2<3");
        six.keep(0);
        six.relate(0, 5);
        six.keep(1);
        due("more below", six.like(0), 0);
        six.undo();
        six.relate(1, 3);
        due("another pair, like", six.like(1), 1);
    }

    private static void counts() {
        promise(45);
        LabelOrder x = made(PENTAGON + ";rule 3");
        int[] wants = {5, 31, 8, 5, 3, 0, 0};
        for (int what = 0; what < 7; what++) {
            due("count(" + what + ")", x.count(what), wants[what]);
        }
        x.drop(1);
        tell(x, "points");
        int[] then = {5, 29, 5, 4, 3, 1, 6};
        for (int what = 0; what < 7; what++) {
            due("count(" + what + ") then", x.count(what), then[what]);
        }
        for (int odd : new int[] {MIN, -1, 7, MAX}) {
            due("count(" + odd + ")", x.count(odd), -1);
        }
    }
}

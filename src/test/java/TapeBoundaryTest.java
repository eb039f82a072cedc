/** The boundary cases of promises 1 to 5 and of the tape (Term 1's block), and the 512 calls of an object. */
public final class TapeBoundaryTest extends Cases {
    private static final String BLOCK = "Term 1 block";

    public static void main(String[] args) {
        calls512();
        newObject();
        signFour();
        signFull();
        endOfTape();
        orderLines();
        orderFault();
        fullTape();
        faultOfLatest();
        lines();
        pointsLine();
        ruleLine();
        lessLine();
        labelLine();
        tokens();
        blanks();
        faultPlaces();
        faultOne();
        faultTwo();
        faultThree();
        faultFour();
        faultLeast();
        end(promises(1, 5, "What it is", BLOCK));
    }

    private static String times(String text, int many) {
        return text.repeat(many);
    }

    // ---- what it is

    private static void calls512() {
        holds("What it is", "Orders cut to chains of labels");
        due("NONE", LabelOrder.NONE, -1);

        holds("What it is", "An object is used for at most 512 calls after it has been made");
        LabelOrder x = new LabelOrder();
        for (int call = 1; call <= 511; call++) {
            due("call " + call + ": end(0)", x.end(0), true);
        }
        due("call 512: count(6)", x.count(6), 0);

        x = new LabelOrder();
        x.sign('p' << 24 | 'o' << 16 | 'i' << 8 | 'n');
        x.sign('t' << 24 | 's' << 16 | ' ' << 8 | '2');
        x.sign(';' << 24 | '0' << 16 | '<' << 8 | '1');
        due("call 4: order()", x.order(), 2);
        for (int call = 5; call <= 510; call++) {
            due("call " + call + ": lift", x.lift(0, 1, call % 100), call == 5 ? 0 : (call - 1) % 100);
        }
        due("call 511: undo()", x.undo(), 15);
        due("call 512: label", x.label(0, 1), 9);

        x = new LabelOrder();
        for (int call = 1; call <= 510; call++) {
            int want = call <= 100 ? 4 * call : -1;
            due("call " + call + ": sign", x.sign(-1), want);
        }
        due("call 511: order()", x.order(), -1);
        due("call 512: fault(0)", x.fault(0), 1);

        x = made("points 9");
        for (int call = 6; call <= 511; call++) {
            due("call " + call + ": selves()", x.selves(), 362880);
        }
        due("call 512: extensions()", x.extensions(), 362880);
    }

    // ---- promises 1 to 3

    private static void newObject() {
        holds("Promise 1", "No ORDER.");
        LabelOrder x = new LabelOrder();
        for (int what = 0; what <= 6; what++) {
            due("count(" + what + ")", x.count(what), 0);
        }
        due("undo()", x.undo(), -1);
        due("keep(0)", x.keep(0), false);
        due("height(0)", x.height(0), -1);
        due("extension(0)", x.extension(0), -1);
        due("lexed()", x.lexed(), -2);
        due("core(-1)", x.core(-1), -3);
        due("fault(0)", x.fault(0), 0);
        due("fault(1)", x.fault(1), -1);
        LabelOrder y = made("points 3;0<1");
        due("another object's order", y.count(0), 3);
        due("is not this one's", x.count(0), 0);
        due("nor a newer one's", new LabelOrder().count(0), 0);
    }

    private static void signFour() {
        holds("Promise 2", "Four signs come behind THE TAPE, of v the highest byte first: how many it has.");
        for (int at = 0; at < 4; at++) {
            LabelOrder x = told("points 1");
            int blanks = 0x20202020;
            int shift = 24 - 8 * at;
            due("sign", x.sign(blanks & ~(255 << shift) | '!' << shift), 12);
            due("order()", x.order(), -1);
            due("the sign ! at byte " + at, x.fault(1), 8 + at);
        }
        for (int v : new int[] {0, 1, -1, MIN, MAX, 0x80808080}) {
            LabelOrder x = told("points 1");
            due("sign(" + v + ")", x.sign(v), 12);
            due("order()", x.order(), -1);
            due("fault(1)", x.fault(1), 8);
        }
        LabelOrder x = told("point");
        due("behind 5 signs", x.sign('s' << 24 | ' ' << 16 | '0' << 8 | '7'), 9);
        due("order()", x.order(), 1);
        due("count(0)", x.count(0), 7);
        due("on an empty tape again", x.sign(0), 4);
    }

    private static LabelOrder tapeOf(int signs) {
        return told("points 2;0<1" + times(" ", signs - 12));
    }

    private static void signFull() {
        holds("Promise 2", "NONE, and none comes: there would be more than 400.");
        LabelOrder x = new LabelOrder();
        for (int i = 1; i <= 100; i++) {
            due("sign " + i, x.sign(0), 4 * i);
        }
        due("sign to 404", x.sign(0), -1);
        for (int signs = 397; signs <= 400; signs++) {
            x = tapeOf(signs);
            due("count(6)", x.count(6), signs);
            due("sign to " + (signs + 4), x.sign('x' << 24), -1);
            due("sign again", x.sign(MIN), -1);
            due("count(6): none came", x.count(6), signs);
            due("order(): the tape is what it was", x.order(), 2);
        }
        x = tapeOf(396);
        due("sign to 400", x.sign(0x20202020), 400);
        due("order()", x.order(), 2);
        due("room again", x.sign(0), 4);
        x = tapeOf(400);
        due("end(396)", x.end(396), true);
        due("sign to 400", x.sign(0x2020203B), 400);
        due("order()", x.order(), -1);
        due("fault(1)", x.fault(1), 400);
        stays("sign to 401", () -> tapeOf(397), o -> o.sign(MAX), -1);
    }

    private static void endOfTape() {
        holds("Promise 3", "THE TAPE has its first n signs alone: true");
        LabelOrder x = new LabelOrder();
        due("end(0) of an empty tape", x.end(0), true);
        x = told("points 37;0<1");
        due("end(13): all of them", x.end(13), true);
        due("count(6)", x.count(6), 13);
        due("end(8)", x.end(8), true);
        due("count(6)", x.count(6), 8);
        due("end(8) again", x.end(8), true);
        due("sign: behind what is left", x.sign(';' << 24 | '1' << 16 | '<' << 8 | '2'), 12);
        due("order()", x.order(), 2);
        due("of(1, 0)", x.of(1, 0), 4);
        x = told("points 3");
        due("end(1)", x.end(1), true);
        due("end(0)", x.end(0), true);
        due("count(6)", x.count(6), 0);
        due("order() of nothing", x.order(), -1);
        due("fault(1)", x.fault(1), 0);
        x = tapeOf(400);
        due("end(400)", x.end(400), true);
        due("end(399)", x.end(399), true);

        holds("Promise 3", "false: it has not so many, n below 0.");
        x = new LabelOrder();
        due("end(1) of an empty tape", x.end(1), false);
        due("end(-1) of an empty tape", x.end(-1), false);
        x = tapeOf(400);
        due("end(401)", x.end(401), false);
        due("end(399)", x.end(399), true);
        due("end(400): it has not so many now", x.end(400), false);
        for (int n : new int[] {MIN, -400, -2, -1, 13, 14, 400, 401, MAX}) {
            stays("end(" + n + ")", () -> told("points 2;0<1"), o -> asInt(o.end(n)), 0);
        }
        stays("end(36)", TapeBoundaryTest::busy, o -> asInt(o.end(36)), 0);
        stays("end(-1)", TapeBoundaryTest::busy, o -> asInt(o.end(-1)), 0);
    }

    // ---- promises 4 and 5

    private static void orderLines() {
        holds("Promise 4", "THE TAPE (empty then) is an ORDER: how many LINES.");
        fine("points 1", 1);
        fine("points 2;0<1", 2);
        fine("points 2;0<1;0<1;0<1", 4);
        LabelOrder x = made("points 9;rule 3;0<1<2;label 0 1 5");
        tell(x, "points 2");
        due("order() in place of another", x.order(), 1);
        due("count(0)", x.count(0), 2);
        due("count(1)", x.count(1), 3);
        due("count(2)", x.count(2), 0);
        due("count(4)", x.count(4), 0);
        due("count(6): empty then", x.count(6), 0);
        due("lift: no label is told", x.lift(0, 1, 1), 0);
        due("order() of the empty tape", x.order(), -1);
        due("count(0) stays", x.count(0), 2);
        x = made("points 9;0<1<2;0<3");
        tell(x, "points 9;4<5");
        due("order() in place of another", x.order(), 2);
        for (int p = 0; p <= 8; p++) {
            due("of(" + p + ", 0)", x.of(p, 0), p == 4 ? 32 : 0);
            due("of(" + p + ", 1)", x.of(p, 1), p == 5 ? 16 : 0);
        }
    }

    private static void orderFault() {
        holds("Promise 4", "NONE: a FAULT (but for THE TAPE all stays).");
        String[] texts = {"", " ", "points 0", "points 4;rule 3;rule 1", "points 9;0<1<2;label 3 4 5;2<0", "x"};
        for (String text : texts) {
            LabelOrder x = busy();
            x.end(0);
            tell(x, text);
            due("order() of '" + text + "'", x.order(), -1);
            due("count(6): empty then", x.count(6), 0);
            sameAs("all stays behind '" + text + "'", TapeBoundaryTest::busyBehindFault, o -> {
                tell(o, text);
                o.order();
                o.order();
            });
        }
        for (LabelOrder x : noOrders()) {
            x.end(0);
            tell(x, "points 3;0<0");
            due("order()", x.order(), -1);
            due("no ORDER yet", x.count(0), 0);
            due("no ORDER yet", x.undo(), -1);
        }
    }

    /** The latest order() was one of an empty tape, so that its fault is the same in both twins. */
    private static LabelOrder busyBehindFault() {
        LabelOrder x = busy();
        x.end(0);
        x.order();
        return x;
    }

    private static void fullTape() {
        holds(BLOCK, "THE TAPE has 400 signs at most.");
        fine("points 9" + times(";0<1", 98), 99);
        fine("points 2" + times(" ", 392), 1);
        fine(times("\n", 392) + "points 2", 1);
        faulty("points 9" + times(";0<1", 97) + ";0<0", 4, 399);
        faulty("points 9" + times(";0<1", 97) + ";0< ", 1, 400);
        faulty("points 9" + times(";0<1", 97) + ";0<;", 1, 399);
        faulty("points 9" + times(" ", 391) + ";", 1, 400);
        faulty(times("a", 400), 1, 0);
        faulty(times("0", 400), 3, 0);
        faulty("points " + times("1", 393), 2, 7);
        faulty(times(" ", 400), 1, 400);
        faulty(times("\n", 399) + "!", 1, 399);
    }

    private static void faultOfLatest() {
        holds("Promise 5", "Of the latest order() what 0: its FAULT (0 without), 1: its place (NONE).");
        LabelOrder x = told("points 3;0<3");
        x.order();
        due("fault(0)", x.fault(0), 2);
        due("fault(1)", x.fault(1), 11);
        tell(x, "points 3;rule 1");
        due("fault(0): the latest order()'s yet", x.fault(0), 2);
        x.end(3);
        due("fault(1): the latest order()'s yet", x.fault(1), 11);
        x.end(0);
        tell(x, "points 3;rule 1");
        x.order();
        due("fault(0) without", x.fault(0), 0);
        due("fault(1) without", x.fault(1), -1);
        x.order();
        due("fault(0) of the empty tape", x.fault(0), 1);
        due("fault(1) of the empty tape: place 0", x.fault(1), 0);
        x.relate(0, 1);
        x.undo();
        x.relate(0, 9);
        due("fault(0) behind acts", x.fault(0), 1);

        holds("Promise 5", "0 and NONE ahead of any; NONE: another what.");
        x = new LabelOrder();
        due("fault(0) ahead of any", x.fault(0), 0);
        due("fault(1) ahead of any", x.fault(1), -1);
        tell(x, "points 0");
        due("fault(0) ahead of any", x.fault(0), 0);
        due("fault(1) ahead of any", x.fault(1), -1);
        x.order();
        for (int what : new int[] {MIN, -2, -1, 2, 3, 7, MAX}) {
            due("fault(" + what + ")", x.fault(what), -1);
        }
    }

    // ---- the lines

    private static void lines() {
        holds(BLOCK, "AN ORDER: LINE {; LINE}");
        fine("points 3", 1);
        fine("points 3;0<1", 2);
        fine("points 3;rule 1;0<1;1<2;label 0 1 1;label 0 1 2", 6);
        faulty("points 3;", 1, 9);
        faulty(";points 3", 1, 0);
        faulty("points 3;;0<1", 1, 9);
        faulty("points 3 0<1", 1, 9);
        faulty("points 3,0<1", 1, 8);
    }

    private static String two(int n) {
        return n < 10 ? "0" + n : "" + n;
    }

    private static void pointsLine() {
        holds(BLOCK, "points N (the first LINE, once; N 1 .. 9)");
        for (int n = 0; n <= 99; n++) {
            for (String number : new String[] {"" + n, two(n)}) {
                if (n >= 1 && n <= 9) {
                    LabelOrder x = made("points " + number);
                    due("count(0) of " + number, x.count(0), n);
                    due("count(1) of " + number, x.count(1), (1 << n) - 1);
                } else {
                    faulty("points " + number, 2, 7);
                }
            }
        }
        faulty("points 3;points 3", 3, 9);
        faulty("0<1;points 3", 3, 0);
    }

    private static void ruleLine() {
        holds(BLOCK, "rule N (once; N 0 .. 3; 0 without)");
        for (int n = 0; n <= 99; n++) {
            for (String number : new String[] {"" + n, two(n)}) {
                if (n <= 3) {
                    due("count(4) of rule " + number, made("points 2;rule " + number).count(4), n);
                } else {
                    faulty("points 2;rule " + number, 2, 14);
                }
            }
        }
        due("count(4) without", made("points 2").count(4), 0);
        due("as the last LINE", made("points 2;0<1;rule 2").count(4), 2);
        faulty("points 2;rule 0;rule 0", 3, 16);
        LabelOrder x = made("points 2;rule 3");
        tell(x, "points 2;rule 1");
        due("once in each text", x.order(), 2);
        due("count(4)", x.count(4), 1);
        tell(x, "points 2;rule 2;0<0");
        due("a FAULT behind a rule", x.order(), -1);
        tell(x, "points 2;rule 2");
        due("once in each text", x.order(), 2);
        due("count(4)", x.count(4), 2);
        tell(x, "points 2");
        due("0 without, whatever the text ahead told", x.order(), 1);
        due("count(4)", x.count(4), 0);
    }

    private static void lessLine() {
        holds(BLOCK, "A < B {< B} (each is BELOW the next one)");
        due("count(2) of two", made("points 9;7<8").count(2), 1);
        due("count(2) of nine", made(LINE9).count(2), 36);
        due("count(2) of nine", made(LINE9_DOWN).count(2), 36);
        due("count(2) of one told twice", made("points 9;0<8;0<8").count(2), 1);
        due("count(2) of what follows from others", made("points 3;0<1<2;0<2").count(2), 3);
        LabelOrder x = made("points 4;0<1<3;2<3");
        due("of(0, 0)", x.of(0, 0), 10);
        due("of(2, 0)", x.of(2, 0), 8);
        faulty("points 3;0", 1, 10);
        faulty("points 3;0<", 1, 11);
        faulty("points 3;0<1<", 1, 13);
        faulty("points 1;0<0", 4, 11);
    }

    private static void labelLine() {
        holds(BLOCK, "label A B N (N 0 .. 99; the last one counts)");
        for (int n = 0; n <= 99; n++) {
            due("label of " + n, made("points 2;0<1;label 0 1 " + n).label(0, 1), n);
            due("label of " + two(n), made("points 2;label 0 1 " + two(n) + ";0<1").label(0, 1), n);
        }
        faulty("points 2;label 0 1 100", 2, 19);
        faulty("points 2;label 0 1 000", 2, 19);
        faulty("points 2;label 0 1 099", 2, 19);
        LabelOrder x = made("points 3;0<1<2;label 0 1 5;label 1 2 6;label 0 1 99;label 0 1 0");
        due("the last one counts", x.label(0, 1), 0);
        due("of its two points alone", x.label(1, 2), 6);
        x = made("points 3;0<1;label 0 1 5;label 1 0 6;label 1 2 7");
        due("the other way round are others", x.lift(0, 1, 5), 5);
        due("the other way round are others", x.lift(1, 0, 6), 6);
        due("told for points of which none is BELOW", x.lift(1, 2, 7), 7);
        faulty("points 1;label 0 0 5", 2, 17);
    }

    // ---- tokens

    private static void tokens() {
        holds(BLOCK, "TOKENS, the longest: words (rows of letters a .. z)");
        fine("points3;label0 1 2", 2);
        faulty("pointspoints 3", 1, 0);
        faulty("pointsa 3", 1, 0);
        faulty("pointsz 3", 1, 0);
        faulty("zpoints 3", 1, 0);
        faulty("point 3", 1, 0);
        faulty("poin ts 3", 1, 0);
        faulty("Points 3", 1, 0);
        faulty("POINTS 3", 1, 0);
        faulty("points 3;rulea 1", 1, 9);
        faulty("points 3;rul 1", 1, 9);
        faulty("points 3;labels 0 1 1", 1, 9);
        faulty("points 3;labe 0 1 1", 1, 9);
        faulty("points 3;rulelabel 1", 1, 9);
        faulty("pointr 3", 1, 0);
        faulty("qoints 3", 1, 0);
        for (char c : new char[] {'@', 'A', 'Z', '[', '`', '{', (char) 225}) {
            faulty("points" + c + "3", 1, 6);
        }

        holds(BLOCK, "numbers N, A, B (rows of digits)");
        faulty("points 3;0<12", 2, 11);
        faulty("points 3;0<1 2", 1, 13);
        faulty("points 9;0<09", 2, 11);
        fine("points 9;0<08", 2);
    }

    private static void blanks() {
        holds(BLOCK, "single other signs; blanks (32, 10) may stand anywhere between.");
        fine("  points  3  ;  0  <  1  <  2  ;  label  0  1  5  ;  rule  2  ", 4);
        fine("\n\npoints\n3\n;\n0\n<\n1\n<\n2\n;label\n0\n1\n5;\nrule\n2\n", 4);
        fine("points3;0<1<2;label0 1 5;rule2", 4);
        fine("points 3;0\n <1", 2);
        for (int c = 0; c < 256; c++) {
            boolean digit = c >= '0' && c <= '9';
            if (c == ' ' || c == '\n') {
                fine("points 3" + (char) c, 1);
                fine((char) c + "points 3", 1);
            } else if (c == ';') {
                faulty("points 3;", 1, 9);
            } else {
                faulty("points 3" + (char) c, digit ? 2 : 1, digit ? 7 : 8);
                faulty((char) c + "points 3", digit ? 3 : 1, 0);
            }
        }
        faulty("points 3;0<<1", 1, 11);
        faulty("points 3;0<=1", 1, 11);
        faulty("points 3;0>1", 1, 10);
        faulty("points -3", 1, 7);
        faulty("points +3", 1, 7);
    }

    // ---- faults

    private static void faultPlaces() {
        holds(BLOCK, "FAULT, the first TOKEN at which there is one (its first sign; the end's: how many signs)");
        faulty("", 1, 0);
        faulty(" ", 1, 1);
        faulty("\n", 1, 1);
        faulty("    ", 1, 4);
        faulty("points", 1, 6);
        faulty("points  \n", 1, 9);
        faulty("points 3; ", 1, 10);
        faulty("points 3;label 0 1 ", 1, 19);
        faulty("points  xyz", 1, 8);
        faulty("points 3;0<0;rule 9", 4, 11);
        faulty("points 3;rule 9;0<0", 2, 14);
        faulty("points 3;points 0", 3, 9);
        faulty("points 3;rule 1;rule 4", 3, 16);
        faulty("points 3;label 0 0 100", 2, 17);
        faulty("points 3;label 3 3 100", 2, 15);
        faulty("points 0;;", 2, 7);
        faulty("points 3;0<1<0<5", 4, 13);
        faulty("points 3;0<5<0", 2, 11);
    }

    private static void faultOne() {
        holds(BLOCK, "1 what can't stand there");
        String[] starts = {"", "points ", "points 3", "points 3;", "points 3;0", "points 3;0<", "points 3;0<1",
            "points 3;0<1<", "points 3;rule ", "points 3;rule 1", "points 3;label ", "points 3;label 0 ",
            "points 3;label 0 1 ", "points 3;label 0 1 2"};
        // Behind a start these can stand: w a word that begins a LINE, n a number, s a semicolon, l <, e the end.
        String[] can = {"", "n", "se", "wn", "l", "n", "sle", "n", "n", "se", "n", "n", "n", "se"};
        for (int i = 0; i < starts.length; i++) {
            int at = starts[i].length() + 1;
            if (!can[i].contains("e")) {
                faulty(starts[i], 1, at - 1);
            }
            if (!can[i].contains("n") && i > 0) {
                faulty(starts[i] + " 1", 1, at);
            }
            if (!can[i].contains("s")) {
                faulty(starts[i] + " ;", 1, at);
            }
            if (!can[i].contains("l")) {
                faulty(starts[i] + " <", 1, at);
            }
            if (!can[i].contains("w") && i > 0) {
                faulty(starts[i] + " points", 1, at);
                faulty(starts[i] + " rule", 1, at);
                faulty(starts[i] + " label", 1, at);
            }
            faulty(starts[i] + " line", 1, at);
            faulty(starts[i] + " =", 1, at);
        }
    }

    private static void faultTwo() {
        holds(BLOCK, "2 a number of more than 2 digits, or out of its bounds, no POINT, a B of label that is its A");
        for (int n = 1; n <= 9; n++) {
            String start = "points " + n + ";";
            for (int p = 0; p <= 99; p++) {
                boolean there = p < n;
                String one = "" + p;
                if (there && n > 1) {
                    int other = p == 0 ? 1 : 0;
                    fine(start + one + "<" + other, 2);
                    fine(start + other + "<" + two(p), 2);
                    fine(start + "label " + one + " " + other + " 1", 2);
                    fine(start + "label " + other + " " + two(p) + " 1", 2);
                } else if (!there) {
                    faulty(start + one + "<0", 2, 9);
                    faulty(start + "0<" + one, 2, 11);
                    faulty(start + "label " + one + " 0 1", 2, 15);
                    faulty(start + "label 0 " + one + " 1", 2, 17);
                }
                if (there) {
                    faulty(start + "label " + one + " " + two(p) + " 1", 2, 17);
                }
            }
        }
        faulty("points 001", 2, 7);
        faulty("points 4294967297", 2, 7);
        faulty("points 18446744073709551617", 2, 7);
        faulty("points 3;rule 001", 2, 14);
        faulty("points 3;000<1", 2, 9);
        faulty("points 3;0<001", 2, 11);
        faulty("points 3;0<1<002", 2, 13);
        faulty("points 3;label 000 1 1", 2, 15);
        faulty("points 3;label 0 001 1", 2, 17);
        faulty("points 3;label 0 1 001", 2, 19);
    }

    private static void faultThree() {
        holds(BLOCK, "3 points, rule for the second time, points that is not first, another LINE that is");
        faulty("points 3;points 3", 3, 9);
        faulty("points 3;0<1; points 3", 3, 14);
        faulty("points 3;rule 1;rule 1", 3, 16);
        faulty("points 3;rule 1;0<1;label 0 1 1; rule 2", 3, 33);
        faulty("rule 1;points 3", 3, 0);
        faulty(" rule 1", 3, 1);
        faulty("label 0 1 1;points 3", 3, 0);
        faulty("\n0<1;points 3", 3, 1);
        fine("points 3;rule 1", 2);

        holds(BLOCK, "(each at its first TOKEN, of which nothing but 1 is asked ahead of this)");
        faulty("points 3;points", 3, 9);
        faulty("points 3;points x", 3, 9);
        faulty("points 3;rule 1;rule", 3, 16);
        faulty("points 3;rule 1;rule 99", 3, 16);
        faulty("rule", 3, 0);
        faulty("label", 3, 0);
        faulty("7", 3, 0);
        faulty("99", 3, 0);
        faulty("100<1", 3, 0);
        faulty("0000 x", 3, 0);
        faulty("line 3", 1, 0);
        faulty("<", 1, 0);
        faulty(";", 1, 0);
    }

    private static void faultFour() {
        holds(BLOCK, "4 a B that would be BELOW itself.");
        faulty("points 1;0<0", 4, 11);
        faulty("points 2;0<1<0", 4, 13);
        faulty("points 2;0<1;1<0", 4, 15);
        faulty("points 9;0<1<2<3<4<5<6<7<8<0", 4, 27);
        faulty("points 9;0<1<2<3<4<5<6<7<8<8", 4, 27);
        faulty("points 9;8<7<6<5<4<3<2<1<0;0<8", 4, 29);
        faulty("points 4;2<3;0<1;1<2;3<0", 4, 23);
        faulty("points 3;0<1<2;2 < 01", 4, 19);
        fine("points 3;0<1<2;0<2;0<1", 4);
    }

    private static void faultLeast() {
        holds(BLOCK, "of one TOKEN the least");
        faulty("points 3 100", 1, 9);
        faulty("points 3;0 100", 1, 11);
        faulty("points 3;0<1 001", 1, 13);
        faulty("points 3;rule 1 999", 1, 16);
        faulty("points 3;2<002", 2, 11);
        faulty("points 3;0<1<000", 2, 13);
        faulty("points 3 points 3", 1, 9);
        faulty("points 3;rule 1 rule 1", 1, 16);
    }
}

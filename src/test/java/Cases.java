import java.io.IOException;
import java.nio.file.Files;
import java.nio.file.Path;
import java.util.ArrayList;
import java.util.LinkedHashMap;
import java.util.List;
import java.util.Map;
import java.util.NoSuchElementException;
import java.util.function.Consumer;
import java.util.function.Supplier;
import java.util.function.ToLongFunction;

/**
 * What the tests share: texts of orders, how one gets on the tape, what is due, which words of the document a
 * case holds, and whether a call leaves all as it was. A test extends it to use all that by its plain name.
 */
abstract class Cases {
    static final int MIN = Integer.MIN_VALUE;
    static final int MAX = Integer.MAX_VALUE;

    /** No point of any order; some are one of its points modulo 32 or as the bits of a byte. */
    static final int[] NO_POINTS = {MIN, MIN + 1, -32, -9, -3, -2, -1, 9, 10, 31, 32, 33, 64, 256, 512, 1 << 16, MAX};

    /** Two points, each over 0 and under 3, with labels that rise on one side and fall on the other. */
    static final String SQUARE =
            "points 4;0 < 1 < 3;0 < 2 < 3;label 0 1 1;label 0 2 2;label 1 3 2;label 2 3 1";
    /** Three steps on one side, two on the other. */
    static final String PENTAGON = "points 5;0<1<2<4;0<3<4";
    static final String DIAMOND = "points 5;0<1<4;0<2<4;0<3<4";
    static final String CUBE =
            "points 8;0<1<3<7;0<2<3;0<4<5<7;1<5;2<6<7;4<6;label 0 1 1;label 0 2 2;label 0 4 3;label 1 3 2;label 1 5 3;"
            + "label 2 3 1;label 2 6 3;label 4 5 1;label 4 6 2;label 3 7 3;label 5 7 2;label 6 7 1";
    /** Levels of 1, 3, 2, 2, 1 points, all of one below all of the next: twelve chains. */
    static final String TWELVE = "points 9;0<1<4<6<8;0<2<4<7<8;0<3<4;1<5<6;2<5<7;3<5;rule 1";
    static final String LINE9 = "points 9;0<1<2<3<4<5<6<7<8";
    static final String LINE9_DOWN = "points 9;8<7<6<5<4<3<2<1<0";
    /** Two points under two points: no join, no meet. */
    static final String CROWN = "points 4;0<2;0<3;1<2;1<3";

    private static final Map<String, String> DOCUMENT = document();
    private static final Map<String, List<String>> HELD = new LinkedHashMap<>();

    private static String place = "";
    private static String words = "";
    private static int checks = 0;
    private static int wrong = 0;

    // ---- the document

    /** By part ("What it is", "Term 1", "Term 1 block", "Promise 1" ..), its text on one line. */
    private static Map<String, String> document() {
        Map<String, String> parts = new LinkedHashMap<>();
        Path file = Path.of("../shared/DOC.md");
        if (!Files.isReadable(file)) {
            System.out.println("no " + file + " here: the words that the cases hold are not looked up in it");
            return parts;
        }
        String part = "";
        try {
            for (String line : Files.readAllLines(file)) {
                part = partOf(line, part);
                if (!line.startsWith("#") && !line.startsWith("```")) {
                    String text = line.replaceFirst("^`[^`]*`: ", "").replaceFirst("^[1-4]\\. ", "").trim();
                    parts.merge(part, text, (p, q) -> (p + " " + q).trim());
                }
            }
        } catch (IOException e) {
            System.out.println(file + " can't be read");
        }
        return parts;
    }

    private static String partOf(String line, String part) {
        if (line.startsWith("## ")) {
            return line.substring(3).replaceFirst("^(Promise \\d+):.*", "$1");
        }
        if (line.matches("[1-4]\\. .*")) {
            return "Term " + line.charAt(0);
        }
        if (line.equals("```text")) {
            return part + " block";
        }
        return line.startsWith("Ahead of the calls") ? "Remarks" : part;
    }

    private static List<String> sentences(String text) {
        List<String> all = new ArrayList<>();
        for (String s : text.split("(?<=[^.]\\.)\\s+")) {
            all.add(s);
        }
        return all;
    }

    /** What is due from here on is so by these words of the document, which must stand there. */
    static void holds(String part, String sentence) {
        place = part;
        words = sentence;
        HELD.computeIfAbsent(part, p -> new ArrayList<>()).add(sentence);
        if (!DOCUMENT.isEmpty() && !DOCUMENT.getOrDefault(part, "").contains(sentence)) {
            fail("these words do not stand there");
        }
    }

    /** What is due from here on is so by this promise as a whole. */
    static void promise(int number) {
        place = "Promise " + number;
        words = "";
    }

    // ---- what is due

    private static void fail(String row) {
        wrong++;
        System.out.println(place + (words.isEmpty() ? "" : ", \"" + words + "\"") + ": " + row);
    }

    static void due(String call, long got, long want) {
        checks++;
        if (got != want) {
            fail(call + " answered " + got + ", due is " + want);
        }
    }

    static void due(String call, boolean got, boolean want) {
        due(call, got ? 1 : 0, want ? 1 : 0);
    }

    static boolean throwsOf(LabelOrder x, int p, int what) {
        try {
            x.of(p, what);
            return false;
        } catch (NoSuchElementException e) {
            return e.getClass() == NoSuchElementException.class;
        }
    }

    /** Ends a test; each sentence of these parts of the document must have had a case. */
    static void end(String... parts) {
        for (String part : parts) {
            place = part;
            for (String s : sentences(DOCUMENT.getOrDefault(part, ""))) {
                words = s;
                boolean held = false;
                for (String h : HELD.getOrDefault(part, List.of())) {
                    held |= s.contains(h) || h.contains(s);
                }
                if (!held && !DOCUMENT.isEmpty()) {
                    fail("no case holds this sentence");
                }
            }
        }
        int cases = 0;
        for (List<String> held : HELD.values()) {
            cases += held.size();
        }
        System.out.println((cases > 0 ? cases + " cases, " : "") + checks + " checks, " + wrong + " wrong");
        if (wrong != 0) {
            System.exit(1);
        }
    }

    static String[] promises(int from, int to, String... more) {
        List<String> all = new ArrayList<>(List.of(more));
        for (int i = from; i <= to; i++) {
            all.add("Promise " + i);
        }
        return all.toArray(new String[0]);
    }

    // ---- orders

    /** Puts just these signs behind the tape, which must have room for whole fours. */
    static void tell(LabelOrder x, String text) {
        int from = x.count(6);
        for (int i = 0; i < text.length(); i += 4) {
            int v = 0;
            for (int k = 0; k < 4; k++) {
                v = v << 8 | (i + k < text.length() ? text.charAt(i + k) : ' ');
            }
            x.sign(v);
        }
        x.end(from + text.length());
    }

    static LabelOrder told(String text) {
        LabelOrder x = new LabelOrder();
        tell(x, text);
        return x;
    }

    static LabelOrder made(String text) {
        LabelOrder x = told(text);
        if (x.order() < 1) {
            due("order of " + text + ", fault " + x.fault(0) + " at " + x.fault(1), 0, 1);
        }
        return x;
    }

    static void faulty(String text, int code, int where) {
        LabelOrder x = told(text);
        due("order '" + text + "'", x.order(), -1);
        due("fault(0) of '" + text + "'", x.fault(0), code);
        due("fault(1) of '" + text + "'", x.fault(1), where);
        due("count(6) behind '" + text + "'", x.count(6), 0);
        due("count(0) behind '" + text + "'", x.count(0), 0);
    }

    static void fine(String text, int lines) {
        LabelOrder x = told(text);
        due("order '" + text + "'", x.order(), lines);
        due("fault(0) of '" + text + "'", x.fault(0), 0);
        due("fault(1) of '" + text + "'", x.fault(1), -1);
        due("count(6) behind '" + text + "'", x.count(6), 0);
    }

    /** Objects that have no order: a new one, one whose tape is not read, one whose tape had a fault. */
    static LabelOrder[] noOrders() {
        LabelOrder faulted = told("points 3;0<1<0");
        faulted.order();
        return new LabelOrder[] {new LabelOrder(), told("points 3;0<1<2"), faulted};
    }

    /** Nine points but one that is dropped, labels, both kept unlike, 16 acts to undo, a fault, signs on the tape. */
    static LabelOrder busy() {
        LabelOrder x = made("points 9;rule 2;0<1<4<6<8;0<2<4<7<8;0<3<4;label 0 1 5;label 6 8 9;label 1 0 7");
        for (int i = 0; i < 10; i++) {
            x.lift(0, 2, 10 + i);
        }
        x.relate(5, 8);
        x.keep(0);
        x.drop(3);
        x.rule(0);
        x.lift(2, 4, 77);
        x.keep(1);
        x.again(0);
        x.again(1);
        x.relate(5, 7);
        x.lift(8, 0, 99);
        tell(x, "points 5;0<5");
        x.order();
        tell(x, "points 4;0<1<3;rule 1;label 0 1 5 ");
        return x;
    }

    // ---- what stays

    private static void seen(LabelOrder x, StringBuilder all) {
        for (int what = 0; what <= 6; what++) {
            all.append(' ').append(x.count(what));
        }
        all.append(" fault ").append(x.fault(0)).append(' ').append(x.fault(1));
        all.append(" like ").append(x.like(0)).append(' ').append(x.like(1));
        order(x, all);
    }

    private static void order(LabelOrder x, StringBuilder all) {
        for (int p = 0; p < 9; p++) {
            if (throwsOf(x, p, 0)) {
                continue;
            }
            all.append(" of ").append(p).append(' ').append(x.of(p, 0));
            int next = x.of(p, 2);
            for (int q = 0; q < 9; q++) {
                if ((next >> q & 1) != 0) {
                    all.append(' ').append(x.label(p, q));
                }
            }
        }
    }

    private static void toldLabels(LabelOrder x, StringBuilder all) {
        for (int a = 0; a < 9; a++) {
            for (int b = 0; b < 9; b++) {
                all.append(' ').append(x.lift(a, b, 1));
            }
        }
    }

    private static void undone(LabelOrder x, StringBuilder all) {
        int left = 0;
        for (int i = 0; i < 18 && left >= 0; i++) {
            left = x.undo();
            all.append(" undo ").append(left).append(' ').append(x.count(1)).append(' ').append(x.count(2));
            all.append(' ').append(x.count(4)).append(' ').append(x.label(0, 2));
        }
        toldLabels(x, all);
    }

    private static void keptOne(LabelOrder x, int k, StringBuilder all) {
        all.append(" again ").append(x.again(k));
        order(x, all);
        all.append(' ').append(x.count(4));
        toldLabels(x, all);
    }

    private static void read(LabelOrder x, StringBuilder all) {
        all.append(" order ").append(x.order()).append(' ').append(x.fault(0)).append(' ').append(x.fault(1));
        order(x, all);
    }

    /** All that can be seen of an object with such a past: each way of looking further spoils one. */
    private static String whole(Supplier<LabelOrder> past) {
        StringBuilder all = new StringBuilder();
        seen(past.get(), all);
        toldLabels(past.get(), all);
        undone(past.get(), all);
        keptOne(past.get(), 0, all);
        keptOne(past.get(), 1, all);
        read(past.get(), all);
        return all.toString();
    }

    /** Behind a past the call answers so, and all is then as in a twin of the same past without the call. */
    static void stays(String call, Supplier<LabelOrder> past, ToLongFunction<LabelOrder> asked, long want) {
        due(call, asked.applyAsLong(past.get()), want);
        sameAs(call + ": all stays", past, x -> asked.applyAsLong(x));
    }

    static void sameAs(String what, Supplier<LabelOrder> past, Consumer<LabelOrder> calls) {
        String without = whole(past);
        String with = whole(() -> {
            LabelOrder x = past.get();
            calls.accept(x);
            return x;
        });
        checks++;
        if (!with.equals(without)) {
            fail(what + "; it is\n  " + with + "\n  due is\n  " + without);
        }
    }

    static int asInt(boolean so) {
        return so ? 1 : 0;
    }
}

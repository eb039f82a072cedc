import java.lang.reflect.InvocationTargetException;
import java.lang.reflect.Method;
import java.math.BigInteger;
import java.util.ArrayDeque;
import java.util.ArrayList;
import java.util.Arrays;
import java.util.HashSet;
import java.util.List;
import java.util.NoSuchElementException;
import java.util.Random;
import java.util.Set;
import java.util.TreeSet;

/**
 * Runs of chosen calls on LabelOrder and on Oracle, which says every promise again in the slowest and most
 * literal way. Each run stays within 512 calls of one object.
 */
public final class OracleTest {
    private static int wrong = 0;
    private static long compared = 0;

    public static void main(String[] args) throws Exception {
        int runs = args.length > 0 ? Integer.parseInt(args[0]) : 1500;
        for (int run = 0; run < runs && wrong < 20; run++) {
            new Run(run).go();
        }
        System.out.println(compared + " answers compared, " + wrong + " wrong");
        if (wrong != 0) {
            System.exit(1);
        }
    }

    private static final class Run {
        final Random random;
        final int run;
        final LabelOrder real = new LabelOrder();
        final Oracle oracle = new Oracle();
        int calls = 0;

        Run(int run) {
            this.run = run;
            this.random = new Random(run);
        }

        void go() throws Exception {
            Method[] methods = LabelOrder.class.getDeclaredMethods();
            List<Method> queries = new ArrayList<>();
            for (Method m : methods) {
                if (java.lang.reflect.Modifier.isPublic(m.getModifiers())) {
                    queries.add(m);
                }
            }
            queries.sort((p, q) -> p.getName().compareTo(q.getName()));
            while (calls < 500) {
                int dice = random.nextInt(100);
                boolean room = calls < 380;
                if (calls == 0 && dice < 90 || dice < 1 && room) {
                    tell(random.nextInt(10) == 0 ? spoil(text()) : text());
                } else if (dice < 2 && room) {
                    tell(spoil(text()));
                } else {
                    Method m = queries.get(random.nextInt(queries.size()));
                    if (m.getName().equals("order") && random.nextInt(10) != 0) {
                        continue;
                    }
                    if (m.getName().equals("drop") && random.nextInt(3) != 0) {
                        continue;
                    }
                    call(m, arguments(m));
                }
            }
        }

        void tell(String text) throws Exception {
            if (oracle.tape.length() > 0) {
                call("end", 0);
            }
            int padded = (text.length() + 3) / 4 * 4;
            for (int i = 0; i < padded; i += 4) {
                int v = 0;
                for (int k = 0; k < 4; k++) {
                    v = v << 8 | (i + k < text.length() ? text.charAt(i + k) : ' ');
                }
                call("sign", v);
            }
            if (random.nextBoolean()) {
                call("end", text.length());
            }
            call("order");
            call("fault", 0);
            call("fault", 1);
        }

        void call(String name, Object... args) throws Exception {
            for (Method m : LabelOrder.class.getDeclaredMethods()) {
                if (m.getName().equals(name) && m.getParameterCount() == args.length
                        && java.lang.reflect.Modifier.isPublic(m.getModifiers())) {
                    call(m, args);
                }
            }
        }

        void call(Method m, Object[] args) throws Exception {
            calls++;
            Object got = answer(m, real, args);
            Object want = answer(Oracle.class.getDeclaredMethod(m.getName(), m.getParameterTypes()), oracle, args);
            String row = m.getName() + Arrays.toString(args) + " = " + got;
            compared++;
            if (!got.equals(want)) {
                wrong++;
                System.out.println("run " + run + ", call " + calls + ": " + row + ", due is " + want
                        + "\n  order: " + oracle);
            }
        }

        Object answer(Method m, Object on, Object[] args) throws Exception {
            try {
                return m.invoke(on, args);
            } catch (InvocationTargetException e) {
                if (on == oracle && !(e.getCause() instanceof NoSuchElementException)) {
                    throw e;
                }
                return "throws." + e.getCause().getClass().getSimpleName();
            }
        }

        Object[] arguments(Method m) {
            Class<?>[] types = m.getParameterTypes();
            Object[] args = new Object[types.length];
            String name = m.getName();
            for (int i = 0; i < types.length; i++) {
                args[i] = types[i] == boolean.class ? (Object) random.nextBoolean() : (Object) number(name, i);
            }
            boolean pair = types.length >= 2 && types[0] == int.class && types[1] == int.class
                    && !name.equals("whitney") && !name.equals("of");
            if (pair && oracle.n > 0 && random.nextInt(8) != 0) {
                choosePair(args, name);
            }
            return args;
        }

        void choosePair(Object[] args, String name) {
            List<int[]> all = new ArrayList<>();
            List<int[]> wide = new ArrayList<>();
            for (int a = 0; a < oracle.n; a++) {
                for (int b = 0; b < oracle.n; b++) {
                    if (oracle.lt(a, b) || (a == b && oracle.has(a) && random.nextInt(4) == 0)) {
                        all.add(new int[] {a, b});
                        if (oracle.inner(a, b).size() >= 2) {
                            wide.add(new int[] {a, b});
                        }
                    }
                }
            }
            if (!wide.isEmpty() && random.nextInt(4) != 0) {
                all = wide;
            }
            if (!all.isEmpty()) {
                int[] c = all.get(random.nextInt(all.size()));
                args[0] = c[0];
                args[1] = c[1];
            }
            if (name.equals("without") && random.nextInt(5) != 0) {
                List<Integer> inner = oracle.inner((Integer) args[0], (Integer) args[1]);
                if (!inner.isEmpty()) {
                    args[2] = inner.get(random.nextInt(inner.size()));
                }
            }
        }

        int number(String name, int i) {
            if (random.nextInt(40) == 0) {
                int[] odd = {Integer.MIN_VALUE, Integer.MAX_VALUE, -2, -1, 9, 10, 31, 32, 33, 64, 400, 512, 511, 1 << 30};
                return odd[random.nextInt(odd.length)];
            }
            switch (name + i) {
                case "sign0":
                    return random.nextInt();
                case "end0":
                    return random.nextInt(20) - 1;
                case "zeta2":
                    int[] most = {3, 10, 1000, 1001};
                    return random.nextInt(most[random.nextInt(4)]) + (random.nextInt(10) == 0 ? 0 : 1);
                case "falling2":
                case "flag2":
                    return random.nextInt(3) == 0 ? random.nextInt(514) - 1 : 2 * random.nextInt(8);
                case "holes3":
                    return new int[] {2, 3, 5, 7, 2, 3, 5, 7, 1, 4, 6, 11}[random.nextInt(12)];
                case "holes2":
                case "faces2":
                    return random.nextInt(6) - 1;
                case "lift2":
                    return random.nextInt(3) == 0 ? random.nextInt(103) - 1 : random.nextInt(4);
                case "keep0":
                case "again0":
                case "like0":
                    return random.nextInt(5) == 0 ? random.nextInt(5) - 2 : random.nextInt(2);
                case "rule0":
                    return random.nextInt(5) == 0 ? 7 : random.nextInt(4);
                case "point2":
                case "labelOf2":
                case "falls2":
                case "crease2":
                    return random.nextInt(6) - (random.nextInt(6) == 0 ? 1 : 0);
                case "point3":
                case "labelOf3":
                    return random.nextInt(5) - (random.nextInt(6) == 0 ? 1 : 0);
                case "kind0":
                case "count0":
                case "chains2":
                    return random.nextInt(8) - 1;
                case "of1":
                case "fault0":
                case "whitney2":
                    return random.nextInt(6) - 1;
                case "core0":
                    return random.nextInt(8) - 1;
                default:
                    return random.nextInt(9);
            }
        }

        String text() {
            int n = 1 + random.nextInt(9);
            if (random.nextInt(3) != 0) {
                n = 6 + random.nextInt(4);
            }
            List<Integer> names = new ArrayList<>();
            for (int i = 0; i < n; i++) {
                names.add(i);
            }
            java.util.Collections.shuffle(names, random);
            StringBuilder sb = new StringBuilder("points " + n);
            if (random.nextBoolean()) {
                sb.append(";rule ").append(random.nextInt(4));
            }
            int shape = random.nextInt(5);
            if (shape == 0) {
                randomPairs(sb, names, random.nextInt(2 * n + 1));
            } else if (shape == 1) {
                bounded(sb, names);
            } else {
                levels(sb, names);
            }
            int labels = random.nextInt(12);
            for (int i = 0; i < labels && sb.length() < 380 && n > 1; i++) {
                int a = random.nextInt(n);
                int b = (a + 1 + random.nextInt(n - 1)) % n;
                sb.append(";label ").append(a).append(' ').append(b).append(' ').append(random.nextInt(4));
            }
            return sb.toString();
        }

        void less(StringBuilder sb, int a, int b) {
            if (sb.length() < 390) {
                sb.append(';').append(a).append('<').append(b);
            }
        }

        void randomPairs(StringBuilder sb, List<Integer> names, int many) {
            int n = names.size();
            for (int i = 0; i < many && n > 1; i++) {
                int p = random.nextInt(n);
                int q = random.nextInt(n);
                if (p != q) {
                    less(sb, names.get(Math.min(p, q)), names.get(Math.max(p, q)));
                }
            }
        }

        void bounded(StringBuilder sb, List<Integer> names) {
            int n = names.size();
            for (int i = 1; i < n - 1; i++) {
                if (sb.length() < 380) {
                    sb.append(';').append(names.get(0)).append('<').append(names.get(i)).append('<')
                            .append(names.get(n - 1));
                }
            }
            for (int i = random.nextInt(8); i > 0 && n > 3; i--) {
                int p = 1 + random.nextInt(n - 2);
                int q = 1 + random.nextInt(n - 2);
                if (p != q) {
                    less(sb, names.get(Math.min(p, q)), names.get(Math.max(p, q)));
                }
            }
        }

        /** Levels of few points, most of each below most of the next one: many chains. */
        void levels(StringBuilder sb, List<Integer> names) {
            int n = names.size();
            int[] level = new int[n];
            for (int i = 1; i < n; i++) {
                boolean up = i == 1 || i == n - 1 || random.nextInt(5) < 2;
                level[i] = level[i - 1] + (up ? 1 : 0);
            }
            for (int i = 0; i < n; i++) {
                for (int j = i + 1; j < n; j++) {
                    if (level[j] == level[i] + 1 && random.nextInt(6) != 0) {
                        less(sb, names.get(i), names.get(j));
                    }
                }
            }
        }

        String spoil(String text) {
            String signs = "0123456789<;<; \n\taAzxpointsrulelabel" + (char) 200 + (char) 0;
            StringBuilder sb = new StringBuilder(text);
            for (int i = random.nextInt(3); i >= 0 && sb.length() > 1; i--) {
                int at = random.nextInt(sb.length());
                char c = signs.charAt(random.nextInt(signs.length()));
                switch (random.nextInt(6)) {
                    case 0:
                        sb.deleteCharAt(at);
                        break;
                    case 1:
                        sb.setCharAt(at, c);
                        break;
                    case 2:
                        sb.insert(at, c);
                        break;
                    case 3:
                        sb.setLength(at);
                        break;
                    case 4:
                        String[] lines = {";rule 1", ";points 3", ";label 1 1 1", "; 0 < 0 ", ";", ";rule 4", ";1<0<1",
                            ";label 0 1 100", ";label 0 1 099", ";12<0", ";0<001", ";rule 00 \n"};
                        sb.append(lines[random.nextInt(lines.length)]);
                        break;
                    default:
                        sb.insert(at, "  \n");
                        break;
                }
            }
            if (sb.length() > 400) {
                sb.setLength(400);
            }
            return sb.toString();
        }
    }

    /** The document, word by word. */
    public static final class Oracle {
        final StringBuilder tape = new StringBuilder();
        int faultCode = 0;
        int faultPlace = -1;
        int n = 0;
        State s = new State();
        final State[] keptStates = new State[2];
        final ArrayDeque<State> past = new ArrayDeque<>();

        static final class State {
            boolean[] there = new boolean[9];
            boolean[][] lt = new boolean[9][9];
            int[][] told = new int[9][9];
            int rule = 0;

            State copy() {
                State c = new State();
                c.there = there.clone();
                for (int i = 0; i < 9; i++) {
                    c.lt[i] = lt[i].clone();
                    c.told[i] = told[i].clone();
                }
                c.rule = rule;
                return c;
            }

            void close() {
                for (int k = 0; k < 9; k++) {
                    for (int i = 0; i < 9; i++) {
                        for (int j = 0; j < 9; j++) {
                            lt[i][j] |= lt[i][k] && lt[k][j];
                        }
                    }
                }
            }
        }

        @Override
        public String toString() {
            StringBuilder sb = new StringBuilder("points " + points() + " rule " + s.rule);
            for (int a : points()) {
                for (int b : points()) {
                    if (lt(a, b)) {
                        sb.append(' ').append(a).append('<').append(b);
                    }
                }
            }
            return sb.toString();
        }

        // ---- words of the document

        boolean has(int x) {
            return n > 0 && x >= 0 && x < n && s.there[x];
        }

        boolean lt(int a, int b) {
            return has(a) && has(b) && s.lt[a][b];
        }

        boolean le(int a, int b) {
            return has(a) && has(b) && (a == b || s.lt[a][b]);
        }

        List<Integer> points() {
            List<Integer> all = new ArrayList<>();
            for (int x = 0; x < 9; x++) {
                if (has(x)) {
                    all.add(x);
                }
            }
            return all;
        }

        boolean cover(int a, int b) {
            if (!lt(a, b)) {
                return false;
            }
            for (int c : points()) {
                if (lt(a, c) && lt(c, b)) {
                    return false;
                }
            }
            return true;
        }

        List<Integer> inner(int a, int b) {
            List<Integer> all = new ArrayList<>();
            for (int x : points()) {
                if (lt(a, x) && lt(x, b)) {
                    all.add(x);
                }
            }
            return all;
        }

        /** 0, -1, -2. */
        int bad(int a, int b) {
            return !has(a) || !has(b) ? -1 : le(a, b) ? 0 : -2;
        }

        int labelBy(int a, int b) {
            return s.rule == 0 ? s.told[a][b] : s.rule == 1 ? b : s.rule == 2 ? (a > b ? a : b) : (a > b ? a - b : b - a);
        }

        /** All rows from a to b. */
        List<List<Integer>> rows(int a, int b) {
            List<List<Integer>> all = new ArrayList<>();
            if (a == b) {
                all.add(new ArrayList<>(List.of(a)));
                return all;
            }
            for (int x : points()) {
                if (lt(a, x) && le(x, b)) {
                    for (List<Integer> tail : rows(x, b)) {
                        List<Integer> row = new ArrayList<>(List.of(a));
                        row.addAll(tail);
                        all.add(row);
                    }
                }
            }
            return all;
        }

        int heightOver(int a, int x) {
            int most = -1;
            for (List<Integer> row : rows(a, x)) {
                most = Math.max(most, row.size() - 1);
            }
            return most;
        }

        List<Integer> labels(List<Integer> chain) {
            List<Integer> all = new ArrayList<>();
            for (int i = 0; i + 1 < chain.size(); i++) {
                all.add(labelBy(chain.get(i), chain.get(i + 1)));
            }
            return all;
        }

        static int lex(List<Integer> p, List<Integer> q) {
            for (int i = 0; i < p.size() && i < q.size(); i++) {
                if (!p.get(i).equals(q.get(i))) {
                    return p.get(i) - q.get(i);
                }
            }
            return p.size() - q.size();
        }

        List<List<Integer>> chainsOf(int a, int b) {
            List<List<Integer>> all = new ArrayList<>();
            for (List<Integer> row : rows(a, b)) {
                boolean covers = true;
                for (int i = 0; i + 1 < row.size(); i++) {
                    covers &= cover(row.get(i), row.get(i + 1));
                }
                if (covers) {
                    all.add(row);
                }
            }
            all.sort((p, q) -> {
                int byLabels = lex(labels(p), labels(q));
                return byLabels != 0 ? byLabels : lex(p, q);
            });
            return all;
        }

        boolean isRising(List<Integer> chain) {
            List<Integer> l = labels(chain);
            for (int i = 1; i < l.size(); i++) {
                if (l.get(i) < l.get(i - 1)) {
                    return false;
                }
            }
            return true;
        }

        boolean isFalling(List<Integer> chain) {
            List<Integer> l = labels(chain);
            for (int i = 1; i < l.size(); i++) {
                if (l.get(i) >= l.get(i - 1)) {
                    return false;
                }
            }
            return true;
        }

        int fallsOf(List<Integer> chain) {
            List<Integer> l = labels(chain);
            int bits = 0;
            for (int place = 1; place + 1 < chain.size(); place++) {
                if (l.get(place) < l.get(place - 1)) {
                    bits |= 1 << place;
                }
            }
            return bits;
        }

        // ---- the tape

        public int sign(int v) {
            if (tape.length() + 4 > 400) {
                return -1;
            }
            tape.append((char) (v >>> 24)).append((char) (v >> 16 & 255)).append((char) (v >> 8 & 255))
                    .append((char) (v & 255));
            return tape.length();
        }

        public boolean end(int m) {
            if (m < 0 || tape.length() < m) {
                return false;
            }
            tape.setLength(m);
            return true;
        }

        static final class Token {
            final String text;
            final int place;

            Token(String text, int place) {
                this.text = text;
                this.place = place;
            }

            boolean isNumber() {
                return text.matches("[0-9]+");
            }
        }

        List<Token> tokens(String t) {
            List<Token> all = new ArrayList<>();
            java.util.regex.Matcher m = java.util.regex.Pattern.compile("[a-z]+|[0-9]+|[^ \n]", java.util.regex.Pattern.DOTALL)
                    .matcher(t);
            while (m.find()) {
                all.add(new Token(m.group(), m.start()));
            }
            all.add(new Token("", t.length()));
            return all;
        }

        public int order() {
            List<Token> all = tokens(tape.toString());
            tape.setLength(0);
            faultCode = 0;
            faultPlace = -1;
            State d = new State();
            int told = 0;
            int lines = 0;
            boolean ruled = false;
            int i = 0;
            while (true) {
                Token t = all.get(i);
                boolean number = t.isNumber();
                if (!number && !t.text.equals("points") && !t.text.equals("rule") && !t.text.equals("label")) {
                    return fail(1, t);
                }
                if (t.text.equals("points") ? lines > 0 : lines == 0) {
                    return fail(3, t);
                }
                if (t.text.equals("rule") && ruled) {
                    return fail(3, t);
                }
                String form = number ? "P" : t.text.equals("points") ? "wN" : t.text.equals("rule") ? "wR" : "wABL";
                int[] values = new int[4];
                for (int k = 0; k < form.length(); k++, i++) {
                    char f = form.charAt(k);
                    if (f == 'w') {
                        continue;
                    }
                    Token u = all.get(i);
                    int code = check(u, f == 'N' ? 1 : 0, f == 'N' ? 9 : f == 'R' ? 3 : f == 'L' ? 99 : told - 1);
                    if (code != 0) {
                        return fail(code, u);
                    }
                    values[k] = Integer.parseInt(u.text);
                    if (f == 'B' && values[k] == values[k - 1]) {
                        return fail(2, u);
                    }
                }
                if (number) {
                    int a = values[0];
                    if (!all.get(i).text.equals("<")) {
                        return fail(1, all.get(i));
                    }
                    while (all.get(i).text.equals("<")) {
                        Token u = all.get(i + 1);
                        int code = check(u, 0, told - 1);
                        if (code != 0) {
                            return fail(code, u);
                        }
                        int b = Integer.parseInt(u.text);
                        d.lt[a][b] = true;
                        d.close();
                        if (d.lt[b][b]) {
                            return fail(4, u);
                        }
                        a = b;
                        i += 2;
                    }
                } else if (form.equals("wN")) {
                    told = values[1];
                } else if (form.equals("wR")) {
                    d.rule = values[1];
                    ruled = true;
                } else {
                    d.told[values[1]][values[2]] = values[3];
                }
                lines++;
                Token after = all.get(i);
                if (after.text.isEmpty()) {
                    break;
                }
                if (!after.text.equals(";")) {
                    return fail(1, after);
                }
                i++;
            }
            for (int x = 0; x < told; x++) {
                d.there[x] = true;
            }
            n = told;
            s = d;
            past.clear();
            keptStates[0] = null;
            keptStates[1] = null;
            return lines;
        }

        int check(Token t, int low, int high) {
            if (!t.isNumber()) {
                return 1;
            }
            if (t.text.length() > 2 || Integer.parseInt(t.text) < low || Integer.parseInt(t.text) > high) {
                return 2;
            }
            return 0;
        }

        int fail(int code, Token t) {
            faultCode = code;
            faultPlace = t.place;
            return -1;
        }

        public int fault(int what) {
            return what == 0 ? faultCode : what == 1 ? faultPlace : -1;
        }

        // ---- acts

        void act() {
            past.addLast(s.copy());
            if (past.size() > 16) {
                past.removeFirst();
            }
        }

        public int relate(int a, int b) {
            if (!has(a) || !has(b)) {
                return -1;
            }
            if (le(b, a)) {
                return -2;
            }
            act();
            s.lt[a][b] = true;
            s.close();
            return count(2);
        }

        public int lift(int a, int b, int v) {
            if (!has(a) || !has(b) || a == b || v < 0 || v > 99) {
                return -1;
            }
            act();
            int was = s.told[a][b];
            s.told[a][b] = v;
            return was;
        }

        public int rule(int r) {
            if (n == 0 || r < 0 || r > 3) {
                return -1;
            }
            act();
            int was = s.rule;
            s.rule = r;
            return was;
        }

        public int drop(int x) {
            if (!has(x)) {
                return -1;
            }
            if (points().size() == 1) {
                return -2;
            }
            act();
            s.there[x] = false;
            return points().size();
        }

        public int undo() {
            if (n == 0) {
                return -1;
            }
            if (past.isEmpty()) {
                return -2;
            }
            s = past.removeLast();
            return past.size();
        }

        public boolean keep(int k) {
            if (n == 0 || k < 0 || k > 1) {
                return false;
            }
            keptStates[k] = s.copy();
            return true;
        }

        public boolean again(int k) {
            if (k < 0 || k > 1 || keptStates[k] == null) {
                return false;
            }
            act();
            s = keptStates[k].copy();
            return true;
        }

        // ---- the order

        public int of(int x, int what) {
            if (!has(x) || what < 0 || what > 3) {
                throw new NoSuchElementException();
            }
            int bits = 0;
            for (int y : points()) {
                boolean in = what == 0 ? lt(x, y) : what == 1 ? lt(y, x) : what == 2 ? cover(x, y) : cover(y, x);
                bits |= in ? 1 << y : 0;
            }
            return bits;
        }

        public int label(int a, int b) {
            return !has(a) || !has(b) ? -1 : cover(a, b) ? labelBy(a, b) : -2;
        }

        public int height(int x) {
            if (!has(x)) {
                return -1;
            }
            int most = 0;
            for (int a : points()) {
                if (le(a, x)) {
                    most = Math.max(most, heightOver(a, x));
                }
            }
            return most;
        }

        public int join(int a, int b) {
            if (!has(a) || !has(b)) {
                return -1;
            }
            for (int x : points()) {
                boolean is = le(a, x) && le(b, x);
                for (int y : points()) {
                    is &= !(le(a, y) && le(b, y)) || le(x, y);
                }
                if (is) {
                    return x;
                }
            }
            return -2;
        }

        public int meet(int a, int b) {
            if (!has(a) || !has(b)) {
                return -1;
            }
            for (int x : points()) {
                boolean is = le(x, a) && le(x, b);
                for (int y : points()) {
                    is &= !(le(y, a) && le(y, b)) || le(y, x);
                }
                if (is) {
                    return x;
                }
            }
            return -2;
        }

        public int kind(int what) {
            if (n == 0 || what < 0 || what > 5) {
                return -1;
            }
            List<Integer> all = points();
            boolean bottom = false;
            boolean top = false;
            boolean even = true;
            boolean lattice = true;
            boolean line = true;
            for (int a : all) {
                boolean low = true;
                boolean high = true;
                for (int b : all) {
                    low &= le(a, b);
                    high &= le(b, a);
                    lattice &= join(a, b) >= 0 && meet(a, b) >= 0;
                    line &= le(a, b) || le(b, a);
                    if (what == 1 && le(a, b)) {
                        Set<Integer> sizes = new HashSet<>();
                        for (List<Integer> c : chainsOf(a, b)) {
                            sizes.add(c.size());
                        }
                        even &= sizes.size() == 1;
                    }
                }
                bottom |= low;
                top |= high;
            }
            boolean[] answers = {bottom && top, even, lattice, lattice, lattice, line};
            if ((what == 3 || what == 4) && lattice) {
                for (int x : all) {
                    for (int y : all) {
                        for (int z : all) {
                            if (what == 3 || le(z, x)) {
                                answers[what] &= meet(x, join(y, z)) == join(meet(x, y), meet(x, z));
                            }
                        }
                    }
                }
            }
            return answers[what] ? 1 : 0;
        }

        public int width() {
            if (n == 0) {
                return -1;
            }
            int most = 0;
            for (List<Integer> set : subsets(points())) {
                boolean free = true;
                for (int a : set) {
                    for (int b : set) {
                        free &= !lt(a, b);
                    }
                }
                most = free ? Math.max(most, set.size()) : most;
            }
            return most;
        }

        static List<List<Integer>> subsets(List<Integer> of) {
            List<List<Integer>> all = new ArrayList<>();
            for (int m = 0; m < 1 << of.size(); m++) {
                List<Integer> set = new ArrayList<>();
                for (int i = 0; i < of.size(); i++) {
                    if ((m >> i & 1) == 1) {
                        set.add(of.get(i));
                    }
                }
                all.add(set);
            }
            return all;
        }

        public int ideals() {
            if (n == 0) {
                return -1;
            }
            int many = 0;
            for (List<Integer> set : subsets(points())) {
                boolean is = true;
                for (int x : set) {
                    for (int y : points()) {
                        is &= !lt(y, x) || set.contains(y);
                    }
                }
                many += is ? 1 : 0;
            }
            return many;
        }

        public int extensions() {
            return n == 0 ? -1 : orderings(new TreeSet<>(points()), null, new ArrayList<>());
        }

        /** How many orderings there are; the first one found goes into first. */
        int orderings(TreeSet<Integer> open, List<Integer> first, List<Integer> soFar) {
            if (open.isEmpty()) {
                if (first != null && first.isEmpty()) {
                    first.addAll(soFar);
                }
                return 1;
            }
            int many = 0;
            for (int x : new ArrayList<>(open)) {
                if (first != null && !first.isEmpty()) {
                    return many;
                }
                boolean free = true;
                for (int y : open) {
                    free &= !lt(y, x);
                }
                if (free) {
                    open.remove(x);
                    soFar.add(x);
                    many += orderings(open, first, soFar);
                    soFar.remove(soFar.size() - 1);
                    open.add(x);
                }
            }
            return many;
        }

        public int extension(int i) {
            List<Integer> first = new ArrayList<>();
            if (n > 0) {
                orderings(new TreeSet<>(points()), first, new ArrayList<>());
            }
            return i >= 0 && i < first.size() ? first.get(i) : -1;
        }

        // ---- chains of an interval

        public int interval(int a, int b) {
            if (bad(a, b) != 0) {
                return bad(a, b);
            }
            int bits = 1 << a | 1 << b;
            for (int x : inner(a, b)) {
                bits |= 1 << x;
            }
            return bits;
        }

        public int chains(int a, int b, int what) {
            if (what < 0 || what > 4) {
                return -1;
            }
            if (bad(a, b) != 0) {
                return bad(a, b);
            }
            int many = 0;
            int most = 0;
            int least = 100;
            for (List<Integer> c : chainsOf(a, b)) {
                many += what == 0 || what == 1 && isRising(c) || what == 2 && isFalling(c) ? 1 : 0;
                most = Math.max(most, c.size() - 1);
                least = Math.min(least, c.size() - 1);
            }
            return what < 3 ? many : what == 3 ? most : least;
        }

        public int point(int a, int b, int i, int k) {
            if (bad(a, b) != 0) {
                return bad(a, b);
            }
            List<List<Integer>> all = chainsOf(a, b);
            return i < 0 || i >= all.size() || k < 0 || k >= all.get(i).size() ? -2 : all.get(i).get(k);
        }

        public int labelOf(int a, int b, int i, int k) {
            if (bad(a, b) != 0) {
                return bad(a, b);
            }
            List<List<Integer>> all = chainsOf(a, b);
            return i < 0 || i >= all.size() || k < 0 || k + 1 >= all.get(i).size() || k == Integer.MAX_VALUE
                    ? -2 : labels(all.get(i)).get(k);
        }

        public int falls(int a, int b, int i) {
            if (bad(a, b) != 0) {
                return bad(a, b);
            }
            List<List<Integer>> all = chainsOf(a, b);
            return i < 0 || i >= all.size() ? -2 : fallsOf(all.get(i));
        }

        public int falling(int a, int b, int set) {
            if (set < 0 || set > 510 || set % 2 != 0) {
                return -1;
            }
            if (bad(a, b) != 0) {
                return bad(a, b);
            }
            int many = 0;
            for (List<Integer> c : chainsOf(a, b)) {
                many += fallsOf(c) == set ? 1 : 0;
            }
            return many;
        }

        /** By set of heights, its flag. */
        int[] flags(int a, int b) {
            int[] flags = new int[512];
            if (a == b) {
                flags[0] = 1;
                return flags;
            }
            for (List<Integer> row : rows(a, b)) {
                int heights = 0;
                for (int x : row.subList(1, row.size() - 1)) {
                    heights |= 1 << heightOver(a, x);
                }
                flags[heights]++;
            }
            return flags;
        }

        public int flag(int a, int b, int set, boolean beta) {
            if (set < 0 || set > 510 || set % 2 != 0 || bad(a, b) != 0) {
                return Integer.MIN_VALUE;
            }
            int[] flags = flags(a, b);
            if (!beta) {
                return flags[set];
            }
            int sum = 0;
            for (int t = 0; t < 512; t++) {
                if ((t & ~set) == 0) {
                    int fewer = Integer.bitCount(set) - Integer.bitCount(t);
                    sum += fewer % 2 == 0 ? flags[t] : -flags[t];
                }
            }
            return sum;
        }

        public int lexed() {
            if (n == 0) {
                return -2;
            }
            for (int code = 0; code < 90; code++) {
                int a = code / 10;
                int b = code % 10;
                if (le(a, b)) {
                    List<List<Integer>> all = chainsOf(a, b);
                    int rising = 0;
                    for (List<Integer> c : all) {
                        rising += isRising(c) ? 1 : 0;
                    }
                    if (rising != 1 || !isRising(all.get(0))) {
                        return code;
                    }
                }
            }
            return -1;
        }

        // ---- numbers

        int mu(int a, int b, int lacking) {
            if (a == b) {
                return 1;
            }
            int sum = mu(a, a, lacking);
            for (int x : inner(a, b)) {
                if (x != lacking) {
                    sum += mu(a, x, lacking);
                }
            }
            return -sum;
        }

        public int moebius(int a, int b) {
            return bad(a, b) != 0 ? Integer.MIN_VALUE : mu(a, b, -1);
        }

        public int whitney(int a, int k, int what) {
            if (!has(a) || k < 0 || what < 0 || what > 1) {
                return Integer.MIN_VALUE;
            }
            int sum = 0;
            for (int x : points()) {
                if (le(a, x) && heightOver(a, x) == k) {
                    sum += what == 0 ? 1 : mu(a, x, -1);
                }
            }
            return sum;
        }

        public long zeta(int a, int b, int m) {
            if (m < 1 || m > 1000) {
                return -1;
            }
            if (bad(a, b) != 0) {
                return bad(a, b);
            }
            BigInteger[] ways = new BigInteger[9];
            Arrays.fill(ways, BigInteger.ZERO);
            ways[a] = BigInteger.ONE;
            for (int step = 0; step < m; step++) {
                BigInteger[] next = new BigInteger[9];
                Arrays.fill(next, BigInteger.ZERO);
                for (int x : points()) {
                    for (int y : points()) {
                        if (le(x, y)) {
                            next[y] = next[y].add(ways[x]);
                        }
                    }
                }
                ways = next;
            }
            return ways[b].bitLength() > 63 ? -3 : ways[b].longValueExact();
        }

        public int steps(int a, int b, int k) {
            if (k < 0) {
                return -1;
            }
            if (bad(a, b) != 0) {
                return bad(a, b);
            }
            int many = 0;
            for (List<Integer> row : rows(a, b)) {
                many += row.size() - 1 == k ? 1 : 0;
            }
            return many;
        }

        int badFace(int a, int b) {
            return bad(a, b) == 0 && a == b ? -2 : bad(a, b);
        }

        List<List<Integer>> facesOf(int a, int b, int d) {
            List<List<Integer>> all = new ArrayList<>();
            for (List<Integer> row : rows(a, b)) {
                List<Integer> face = row.subList(1, row.size() - 1);
                if (face.size() - 1 == d) {
                    all.add(face);
                }
            }
            return all;
        }

        public int faces(int a, int b, int d) {
            return d < -1 ? -1 : badFace(a, b) != 0 ? badFace(a, b) : facesOf(a, b, d).size();
        }

        int rank(List<List<Integer>> from, List<List<Integer>> to, int p) {
            int[][] m = new int[from.size()][to.size()];
            for (int i = 0; i < from.size(); i++) {
                for (int k = 0; k < from.get(i).size(); k++) {
                    List<Integer> side = new ArrayList<>(from.get(i));
                    side.remove(k);
                    m[i][to.indexOf(side)] = k % 2 == 0 ? 1 : -1;
                }
            }
            int rank = 0;
            for (int c = 0; c < to.size(); c++) {
                int pivot = -1;
                for (int i = rank; i < m.length; i++) {
                    if (Math.floorMod(m[i][c], p) != 0) {
                        pivot = i;
                    }
                }
                if (pivot < 0) {
                    continue;
                }
                int[] row = m[pivot];
                m[pivot] = m[rank];
                m[rank] = row;
                for (int i = rank + 1; i < m.length; i++) {
                    int f = m[i][c];
                    for (int j = 0; j < to.size(); j++) {
                        m[i][j] = Math.floorMod(m[i][j] * row[c] - f * row[j], p);
                    }
                }
                rank++;
            }
            return rank;
        }

        public int holes(int a, int b, int d, int p) {
            if (d < -1 || p != 2 && p != 3 && p != 5 && p != 7) {
                return -1;
            }
            if (badFace(a, b) != 0) {
                return badFace(a, b);
            }
            if (d > 20) {
                return 0;
            }
            int down = d == -1 ? 0 : rank(facesOf(a, b, d), facesOf(a, b, d - 1), p);
            return facesOf(a, b, d).size() - down - rank(facesOf(a, b, d + 1), facesOf(a, b, d), p);
        }

        // ---- shells

        public int shelled(int a, int b) {
            int bad = badFace(a, b);
            if (bad != 0) {
                return bad == -1 ? -3 : -2;
            }
            List<List<Integer>> all = chainsOf(a, b);
            for (int j = 1; j < all.size(); j++) {
                for (int i = 0; i < j; i++) {
                    Set<Integer> both = new HashSet<>(all.get(j));
                    both.retainAll(all.get(i));
                    boolean found = false;
                    for (int k = 0; k < j; k++) {
                        Set<Integer> shared = new HashSet<>(all.get(j));
                        shared.retainAll(all.get(k));
                        found |= shared.size() == all.get(j).size() - 1 && all.get(k).containsAll(both);
                    }
                    if (!found) {
                        return j;
                    }
                }
            }
            return -1;
        }

        int creaseOf(List<List<Integer>> all, int j) {
            int bits = 0;
            for (int x : all.get(j)) {
                List<Integer> rest = new ArrayList<>(all.get(j));
                rest.remove((Integer) x);
                for (int k = 0; k < j; k++) {
                    if (all.get(k).containsAll(rest)) {
                        bits |= 1 << x;
                    }
                }
            }
            return bits;
        }

        public int crease(int a, int b, int i) {
            if (badFace(a, b) != 0) {
                return badFace(a, b);
            }
            List<List<Integer>> all = chainsOf(a, b);
            return i < 0 || i >= all.size() ? -2 : creaseOf(all, i);
        }

        public int creased(int a, int b, int k) {
            if (k < 0) {
                return -1;
            }
            if (badFace(a, b) != 0) {
                return badFace(a, b);
            }
            List<List<Integer>> all = chainsOf(a, b);
            int many = 0;
            for (int j = 0; j < all.size(); j++) {
                many += Integer.bitCount(creaseOf(all, j)) == k ? 1 : 0;
            }
            return many;
        }

        // ---- what is taken away

        public int without(int a, int b, int x) {
            return bad(a, b) != 0 || !inner(a, b).contains(x) ? Integer.MIN_VALUE : mu(a, b, x);
        }

        public int counted(int a, int b) {
            if (bad(a, b) != 0) {
                return bad(a, b);
            }
            int bits = 0;
            for (int x : inner(a, b)) {
                bits |= mu(a, b, x) != mu(a, b, -1) ? 1 << x : 0;
            }
            return bits;
        }

        public int core(int i) {
            if (n == 0 || i < -1) {
                return -3;
            }
            State saved = s.copy();
            List<Integer> taken = new ArrayList<>();
            boolean more = true;
            while (more) {
                more = false;
                for (int x : points()) {
                    if (Integer.bitCount(of(x, 2)) == 1 || Integer.bitCount(of(x, 3)) == 1) {
                        taken.add(x);
                        s.there[x] = false;
                        more = true;
                        break;
                    }
                }
            }
            int left = points().size();
            s = saved;
            return i == -1 ? left : i < taken.size() ? taken.get(i) : -2;
        }

        static int matches(State p, State q, int x, int[] image, int used) {
            if (x == 9) {
                return 1;
            }
            if (!p.there[x]) {
                return matches(p, q, x + 1, image, used);
            }
            int many = 0;
            for (int y = 0; y < 9; y++) {
                if (!q.there[y] || (used >> y & 1) == 1) {
                    continue;
                }
                boolean fits = true;
                for (int z = 0; z < x; z++) {
                    fits &= !p.there[z] || p.lt[z][x] == q.lt[image[z]][y] && p.lt[x][z] == q.lt[y][image[z]];
                }
                if (fits) {
                    image[x] = y;
                    many += matches(p, q, x + 1, image, used | 1 << y);
                }
            }
            return many;
        }

        public int selves() {
            return n == 0 ? -1 : matches(s, s, 0, new int[9], 0);
        }

        public int like(int k) {
            if (k < 0 || k > 1 || keptStates[k] == null) {
                return -1;
            }
            int here = 0;
            int there = 0;
            for (int x = 0; x < 9; x++) {
                here += s.there[x] ? 1 : 0;
                there += keptStates[k].there[x] ? 1 : 0;
            }
            return here == there && matches(s, keptStates[k], 0, new int[9], 0) > 0 ? 1 : 0;
        }

        public int count(int what) {
            int pairs = 0;
            int edges = 0;
            int bits = 0;
            for (int a : points()) {
                bits |= 1 << a;
                for (int b : points()) {
                    pairs += lt(a, b) ? 1 : 0;
                    edges += cover(a, b) ? 1 : 0;
                }
            }
            int[] answers = {n, bits, pairs, edges, s.rule, past.size(), tape.length()};
            return what < 0 || what > 6 ? -1 : answers[what];
        }
    }
}

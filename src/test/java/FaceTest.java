import java.lang.reflect.Field;
import java.lang.reflect.InvocationTargetException;
import java.lang.reflect.Method;
import java.lang.reflect.Modifier;
import java.nio.file.Files;
import java.nio.file.Path;
import java.util.ArrayList;
import java.util.Arrays;
import java.util.List;
import java.util.NoSuchElementException;
import java.util.Random;
import java.util.Set;
import java.util.TreeSet;

/**
 * The face is the document's and nothing else of the class can be seen; no call throws but of(), whatever its
 * arguments are; and no call makes an object, as all calls of a run live in one room.
 */
public final class FaceTest {
    private static final String[] FACE = {
        "int sign(int)", "boolean end(int)", "int order()", "int fault(int)", "int relate(int, int)",
        "int lift(int, int, int)", "int rule(int)", "int drop(int)", "int undo()", "boolean keep(int)",
        "boolean again(int)", "int of(int, int)", "int label(int, int)", "int height(int)", "int join(int, int)",
        "int meet(int, int)", "int kind(int)", "int width()", "int ideals()", "int extensions()",
        "int extension(int)", "int interval(int, int)", "int chains(int, int, int)", "int point(int, int, int, int)",
        "int labelOf(int, int, int, int)", "int falls(int, int, int)", "int falling(int, int, int)",
        "int flag(int, int, int, boolean)", "int lexed()", "int moebius(int, int)", "int whitney(int, int, int)",
        "long zeta(int, int, int)", "int steps(int, int, int)", "int faces(int, int, int)",
        "int holes(int, int, int, int)", "int shelled(int, int)", "int crease(int, int, int)",
        "int creased(int, int, int)", "int without(int, int, int)", "int counted(int, int)", "int core(int)",
        "int selves()", "int like(int)", "int count(int)",
    };
    /** What one new object may take of the room of 600,000 objects and 7.3 million elements. */
    private static final int MOST_OBJECTS = 300;
    private static final int MOST_ELEMENTS = 8000;

    private static int wrong = 0;

    private static void check(boolean so, String what) {
        if (!so) {
            wrong++;
            System.out.println(what);
        }
    }

    public static void main(String[] args) throws Exception {
        face();
        names();
        source();
        anyArguments();
        room();
        System.out.println(wrong == 0 ? "the face is as due" : wrong + " faults of the face");
        if (wrong != 0) {
            System.exit(1);
        }
    }

    private static void face() throws Exception {
        check(Modifier.isPublic(LabelOrder.class.getModifiers()) && Modifier.isFinal(LabelOrder.class.getModifiers()),
                "the class is not public and final");
        Set<String> want = new TreeSet<>(Arrays.asList(FACE));
        Set<String> got = new TreeSet<>();
        for (Method m : LabelOrder.class.getDeclaredMethods()) {
            if (!Modifier.isPrivate(m.getModifiers())) {
                String types = Arrays.toString(m.getParameterTypes());
                got.add(m.getReturnType() + " " + m.getName() + "(" + types.substring(1, types.length() - 1) + ")");
                check(!Modifier.isStatic(m.getModifiers()), m + " is static");
            }
        }
        check(got.equals(want), "the methods are " + got + ", due are " + want);
        check(LabelOrder.class.getDeclaredMethod("of", int.class, int.class).getExceptionTypes().length == 1,
                "of() does not say what it throws");
        check(LabelOrder.class.getDeclaredConstructors().length == 1
                && Modifier.isPublic(LabelOrder.class.getConstructor().getModifiers()), "not one public constructor");
        for (Field f : LabelOrder.class.getDeclaredFields()) {
            check(Modifier.isPrivate(f.getModifiers()) || f.getName().equals("NONE"), f + " can be seen");
        }
    }

    private static List<Class<?>> classes() {
        List<Class<?>> all = new ArrayList<>();
        all.add(LabelOrder.class);
        all.addAll(Arrays.asList(LabelOrder.class.getDeclaredClasses()));
        return all;
    }

    private static void names() {
        Set<String> open = new TreeSet<>();
        for (String row : FACE) {
            open.add(row.substring(row.indexOf(' ') + 1, row.indexOf('(')));
        }
        check(classes().size() <= 12, "more than twelve classes");
        for (Class<?> c : classes()) {
            int fields = 0;
            for (Field f : c.getDeclaredFields()) {
                check(!Modifier.isStatic(f.getModifiers()) || Modifier.isFinal(f.getModifiers()), f + " is not final");
                fields += Modifier.isStatic(f.getModifiers()) ? 0 : 1;
            }
            check(fields <= 20, c + " has " + fields + " fields");
            check(c == LabelOrder.class || Modifier.isStatic(c.getModifiers()), c + " is not static");
            for (Method m : c.getDeclaredMethods()) {
                check(m.getParameterCount() <= 7, m + " has too many parameters");
                check(c == LabelOrder.class && Modifier.isPublic(m.getModifiers()) || !open.contains(m.getName()),
                        m + " bears the name of a public one");
            }
        }
    }

    private static void source() throws Exception {
        String text = Files.readString(Path.of("src/main/java/LabelOrder.java"));
        String code = text.replaceAll("(?s)/\\*.*?\\*/", "").replaceAll("//[^\n]*", "");
        String[] banned = {"\\bcatch\\b", "\\bfinally\\b", "\\bassert\\b", "\\bsynchronized\\b", "->", "::",
            "\\bvar\\b", "Exact\\b", "\\bpackage\\b", "\\bdouble\\b", "\\bfloat\\b", "\\bThread\\b", "\\bRandom\\b",
            "System\\.(?!arraycopy)", "\\bString\\.", "static\\s*\\{", "\\\"\\s*\\+|\\+\\s*\\\""};
        for (String b : banned) {
            check(!java.util.regex.Pattern.compile(b).matcher(code).find(), "the source has " + b);
        }
        for (String line : code.split("\n")) {
            if (line.startsWith("import ")) {
                check(line.equals("import java.util.Arrays;") || line.equals("import java.util.NoSuchElementException;"),
                        line + " is not of the library");
            }
        }
        int depth = 0;
        int start = 0;
        String[] lines = text.split("\n");
        for (int i = 0; i < lines.length; i++) {
            boolean opens = lines[i].matches("(    ){1,2}[^ /*].*\\) (throws \\w+ )?\\{");
            if (opens) {
                depth = lines[i].indexOf(lines[i].trim());
                start = i;
            } else if (depth > 0 && lines[i].equals(" ".repeat(depth) + "}")) {
                check(i - start < 60, lines[start].trim() + " has more than sixty lines");
                depth = 0;
            }
        }
    }

    private static Object invoke(LabelOrder x, Method m, Object[] args) throws Exception {
        try {
            return m.invoke(x, args);
        } catch (InvocationTargetException e) {
            boolean due = m.getName().equals("of") && e.getCause().getClass() == NoSuchElementException.class;
            check(due, m.getName() + Arrays.toString(args) + " throws " + e.getCause());
            return null;
        }
    }

    private static LabelOrder twelveChains() {
        LabelOrder x = Cases.made(Cases.TWELVE);
        check(x.count(0) == 9, "no order");
        return x;
    }

    private static void anyArguments() throws Exception {
        int[] odd = {Integer.MIN_VALUE, Integer.MIN_VALUE + 1, -512, -33, -32, -31, -9, -2, -1, 0, 1, 2, 3, 7, 8, 9, 10,
            16, 31, 32, 33, 63, 64, 80, 81, 99, 100, 255, 510, 511, 512, 513, 999, 1000, 1001, 1 << 30,
            Integer.MAX_VALUE - 1, Integer.MAX_VALUE};
        Random random = new Random(7);
        for (int run = 0; run < 400; run++) {
            LabelOrder x = run % 4 == 0 ? new LabelOrder() : twelveChains();
            for (int call = 0; call < 400; call++) {
                Method m = Arrays.stream(LabelOrder.class.getMethods())
                        .filter(p -> p.getDeclaringClass() == LabelOrder.class).toArray(Method[]::new)[random.nextInt(44)];
                Object[] args = new Object[m.getParameterCount()];
                for (int i = 0; i < args.length; i++) {
                    boolean flag = m.getParameterTypes()[i] == boolean.class;
                    boolean plain = random.nextInt(3) != 0;
                    args[i] = flag ? (Object) random.nextBoolean()
                            : plain ? (Object) random.nextInt(9) : (Object) odd[random.nextInt(odd.length)];
                }
                invoke(x, m, args);
            }
        }
    }

    private static void room() throws Exception {
        int[] size = new int[2];
        measure(new LabelOrder(), size);
        check(size[0] <= MOST_OBJECTS, "a new object makes " + size[0] + " objects");
        check(size[1] <= MOST_ELEMENTS, "a new object makes " + size[1] + " fields and elements");
        com.sun.management.ThreadMXBean bean =
                (com.sun.management.ThreadMXBean) java.lang.management.ManagementFactory.getThreadMXBean();
        long id = Thread.currentThread().getId();
        LabelOrder x = twelveChains();
        // The first turns load what the measuring itself makes.
        long made = 0;
        for (int turn = 0; turn < 3; turn++) {
            long before = bean.getThreadAllocatedBytes(id);
            everyCall(x);
            made = bean.getThreadAllocatedBytes(id) - before;
        }
        check(made < 200, "the calls make objects: " + made + " bytes");
    }

    /** Counts what an object holds: objects and arrays, and their fields and elements. */
    private static void measure(Object o, int[] size) throws Exception {
        size[0]++;
        if (o.getClass().isArray()) {
            int n = java.lang.reflect.Array.getLength(o);
            size[1] += n;
            for (int i = 0; i < n && !o.getClass().getComponentType().isPrimitive(); i++) {
                measure(java.lang.reflect.Array.get(o, i), size);
            }
            return;
        }
        for (Field f : o.getClass().getDeclaredFields()) {
            if (Modifier.isStatic(f.getModifiers())) {
                continue;
            }
            size[1]++;
            if (!f.getType().isPrimitive()) {
                f.setAccessible(true);
                measure(f.get(o), size);
            }
        }
    }

    private static void everyCall(LabelOrder x) {
        x.sign('p' << 24 | 'o' << 16 | 'i' << 8 | 'n');
        x.end(4);
        x.fault(1);
        x.relate(0, 8);
        x.lift(0, 1, 5);
        x.rule(1);
        x.drop(7);
        x.undo();
        x.keep(0);
        x.again(0);
        x.of(0, 2);
        x.label(0, 1);
        x.height(8);
        x.join(1, 2);
        x.meet(1, 2);
        for (int what = 0; what < 6; what++) {
            x.kind(what);
        }
        x.width();
        x.ideals();
        x.extensions();
        x.extension(3);
        x.interval(0, 8);
        x.chains(0, 8, 0);
        x.point(0, 8, 3, 1);
        x.labelOf(0, 8, 3, 1);
        x.falls(0, 8, 3);
        x.falling(0, 8, 2);
        x.flag(0, 8, 14, true);
        x.flag(0, 8, 14, false);
        x.lexed();
        x.moebius(0, 8);
        x.whitney(0, 2, 1);
        x.zeta(0, 8, 1000);
        x.steps(0, 8, 3);
        x.faces(0, 8, 1);
        x.holes(0, 8, 1, 3);
        x.shelled(0, 8);
        x.crease(0, 8, 5);
        x.creased(0, 8, 1);
        x.without(0, 8, 4);
        x.counted(0, 8);
        x.core(-1);
        x.selves();
        x.like(0);
        x.count(3);
        x.order();
    }
}

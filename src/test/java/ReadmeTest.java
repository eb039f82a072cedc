import java.io.IOException;
import java.lang.reflect.InvocationTargetException;
import java.lang.reflect.Method;
import java.lang.reflect.Modifier;
import java.nio.file.Files;
import java.nio.file.Path;
import java.util.regex.Matcher;
import java.util.regex.Pattern;

/** README.md says how to use the class: its example answers as it says there, and it names each call. */
public final class ReadmeTest {
    private static final Pattern TEXT = Pattern.compile("String text = \"([^\"]*)\";");
    private static final Pattern ROW = Pattern.compile("(?m)^x\\.(\\w+)\\(([^)]*)\\);\\s*// (\\S+)$");

    private static int wrong = 0;

    private static void check(boolean so, String what) {
        if (!so) {
            wrong++;
            System.out.println(what);
        }
    }

    public static void main(String[] args) throws IOException, IllegalAccessException {
        String page = Files.readString(Path.of("README.md"));
        example(page);
        names(page);
        System.out.println(wrong == 0 ? "README.md is as due" : wrong + " faults of README.md");
        if (wrong != 0) {
            System.exit(1);
        }
    }

    private static void example(String page) throws IllegalAccessException {
        Matcher text = TEXT.matcher(page);
        boolean told = text.find();
        check(told, "no text of an order");
        if (!told) {
            return;
        }
        LabelOrder x = Cases.told(text.group(1));
        Matcher row = ROW.matcher(page);
        int rows = 0;
        while (row.find()) {
            rows++;
            String got = answer(x, row.group(1), row.group(2));
            check(got.equals(row.group(3)),
                    row.group(1) + "(" + row.group(2) + ") answered " + got + ", README.md says " + row.group(3));
        }
        check(rows >= 20, "only " + rows + " rows of the example were found");
    }

    private static String answer(LabelOrder x, String name, String list) throws IllegalAccessException {
        String[] words = list.isEmpty() ? new String[0] : list.split(", ");
        Object[] numbers = new Object[words.length];
        for (int i = 0; i < words.length; i++) {
            numbers[i] = Integer.parseInt(words[i]);
        }
        for (Method m : LabelOrder.class.getMethods()) {
            if (m.getName().equals(name) && m.getParameterCount() == numbers.length) {
                try {
                    return String.valueOf(m.invoke(x, numbers));
                } catch (InvocationTargetException e) {
                    return e.getCause().getClass().getSimpleName();
                }
            }
        }
        return "no such call";
    }

    private static void names(String page) {
        for (Method m : LabelOrder.class.getDeclaredMethods()) {
            if (Modifier.isPublic(m.getModifiers())) {
                check(page.contains("`" + m.getName() + "`"), "README.md does not name " + m.getName());
            }
        }
        check(page.contains(".ci/run"), "README.md does not say how to run the tests");
        for (String file : new java.io.File("src/test/java").list()) {
            boolean named = page.contains(file) || file.endsWith("BoundaryTest.java") && page.contains("*BoundaryTest.java");
            check(named, "README.md does not name " + file);
        }
    }
}

import java.io.IOException;
import java.lang.reflect.InvocationTargetException;
import java.lang.reflect.Method;
import java.nio.file.Files;
import java.nio.file.Path;
import java.util.ArrayList;
import java.util.Arrays;
import java.util.Collections;
import java.util.List;
import java.util.Set;
import java.util.TreeSet;
import java.util.regex.Matcher;
import java.util.regex.Pattern;

/** The calls of README.md answer as told there, and the tests that the pages name are there. Runs in the project's folder. */
public final class ReadmeTest {
    private static final Pattern CALL = Pattern.compile("x\\.(\\w+)\\(([-0-9, ]*)\\);\\s+// (-?\\d+): .+");
    private static final Pattern TEXT = Pattern.compile("for \\(char c : \"([^\"]*)\"\\.toCharArray\\(\\)\\) \\{");
    private static final Pattern ROW = Pattern.compile("\\| `(\\w+Test)` \\| .+ \\|");
    private static final Pattern NAMED = Pattern.compile("(\\w+Test)(\\.\\w+(?:\\.\\.)?(?:, (?!\\w+Test)\\w+(?:\\.\\.)?)*)?");

    private static final Set<String> called = new TreeSet<>();
    private static BumperCars x = null;

    public static void main(String[] args) throws IOException {
        List<String> readme = Files.readAllLines(Path.of("README.md"));
        calls(readme);
        everyCallIsShown();
        tableOfTests(readme);
        edges(Files.readAllLines(Path.of("src/test/EDGES.md")));
        Check.end();
    }

    /** A line of Java that is neither of the forms above is a fault of the page: it would go unchecked. */
    private static void calls(List<String> lines) {
        boolean inside = false;
        for (String line : lines) {
            if (line.startsWith("```")) {
                inside = line.equals("```java");
            } else if (inside) {
                Check.that("understood: " + line, made(line.trim()));
            }
        }
    }

    private static boolean made(String line) {
        if (line.equals("BumperCars x = new BumperCars();")) {
            x = new BumperCars();
            return true;
        }
        Matcher text = TEXT.matcher(line);
        if (text.matches()) {
            Check.type(x, text.group(1));
            called.add("type");
            return true;
        }
        Matcher call = CALL.matcher(line);
        if (call.matches()) {
            Check.due(line, answer(call.group(1), numbers(call.group(2))), Long.parseLong(call.group(3)));
            called.add(call.group(1));
            return true;
        }
        return line.equals("x.type(c);") || line.equals("}");
    }

    private static Object[] numbers(String told) {
        List<Object> all = new ArrayList<>();
        for (String one : told.split(",")) {
            if (!one.isBlank()) {
                all.add(Integer.valueOf(one.trim()));
            }
        }
        return all.toArray();
    }

    private static long answer(String name, Object[] numbers) {
        Class<?>[] types = new Class<?>[numbers.length];
        Arrays.fill(types, int.class);
        try {
            return ((Number) BumperCars.class.getMethod(name, types).invoke(x, numbers)).longValue();
        } catch (NoSuchMethodException | IllegalAccessException | InvocationTargetException e) {
            throw new IllegalStateException("no such call: " + name, e);
        }
    }

    private static void everyCallIsShown() {
        for (Method m : BumperCars.class.getDeclaredMethods()) {
            if ((m.getModifiers() & java.lang.reflect.Modifier.PUBLIC) != 0) {
                Check.that("README.md shows " + m.getName(), called.contains(m.getName()));
            }
        }
    }

    private static void tableOfTests(List<String> lines) throws IOException {
        List<String> told = new ArrayList<>();
        for (String line : lines) {
            Matcher row = ROW.matcher(line);
            if (row.matches()) {
                told.add(row.group(1));
            }
        }
        Collections.sort(told);
        List<String> there = new ArrayList<>();
        try (var files = Files.list(Path.of("src/test/java"))) {
            files.map(f -> f.getFileName().toString()).filter(f -> f.endsWith("Test.java"))
                .forEach(f -> there.add(f.substring(0, f.length() - ".java".length())));
        }
        Collections.sort(there);
        Check.that("the table of tests: " + told + ", there are " + there, told.equals(there));
    }

    /** Each name behind a test's own, up to the next test's, is a method of it; two dots stand for what follows. */
    private static void edges(List<String> lines) {
        int seen = 0;
        for (String line : lines) {
            String[] parts = line.split("\\|");
            Matcher named = NAMED.matcher(line.startsWith("|") ? parts[parts.length - 1] : "");
            while (named.find()) {
                seen++;
                tested(named.group(1), named.group(2));
            }
        }
        Check.that("EDGES.md names tests", seen > 50);
    }

    private static void tested(String test, String methods) {
        Class<?> c;
        try {
            c = Class.forName(test);
        } catch (ClassNotFoundException e) {
            Check.that("EDGES.md: there is " + test, false);
            return;
        }
        for (String one : methods == null ? new String[0] : methods.substring(1).split(", ")) {
            boolean there = false;
            for (Method m : c.getDeclaredMethods()) {
                there |= one.endsWith("..") ? m.getName().startsWith(one.substring(0, one.length() - 2))
                    : m.getName().equals(one);
            }
            Check.that("EDGES.md: " + test + " has " + one, there);
        }
    }
}

import java.io.IOException;
import java.lang.reflect.Array;
import java.lang.reflect.Constructor;
import java.lang.reflect.Field;
import java.lang.reflect.Method;
import java.lang.reflect.Modifier;
import java.nio.file.Files;
import java.nio.file.Path;
import java.util.ArrayList;
import java.util.Arrays;
import java.util.Collections;
import java.util.IdentityHashMap;
import java.util.List;
import java.util.Set;
import java.util.regex.Matcher;
import java.util.regex.Pattern;

/** The face of the document and what of LANGUAGE.md can be seen from outside. Runs in the project's folder. */
public final class LanguageTest {
    private static final String[] FACE = {
        "int floor()", "int car(int,int,int)", "int type(int)", "int clear()", "int read()", "int tick(int)",
        "int hat(int)", "int push(int,int,int)", "int undo()", "int of(int,int)", "int at(int)", "int way(int)",
        "int then(int,int,int)", "int when(int)", "int bumps(int)", "int cluster(int)", "int stand(int)",
        "int steer(int,int,int,int)", "int note(int,int,int,int,int,int,int)", "int forget()", "int is(int)",
        "int look(int)", "int two(int,int,int)", "int bell(int,int)", "int rounds(int,int)", "long part(int)",
        "int image(int)", "int from(int)", "int status(int)", "int count(int)", "long digest()"};

    public static void main(String[] args) throws IOException {
        face();
        insideClasses();
        words();
        libraryCalls();
        lengthOfMethods();
        roomOfOneObject();
        Check.end();
    }

    private static String told(Method m) {
        List<String> parameters = new ArrayList<>();
        for (Class<?> type : m.getParameterTypes()) {
            parameters.add(type.getName());
        }
        return m.getReturnType().getName() + " " + m.getName() + "(" + String.join(",", parameters) + ")";
    }

    private static void face() {
        Class<?> c = BumperCars.class;
        Check.that("public and final", Modifier.isPublic(c.getModifiers()) && Modifier.isFinal(c.getModifiers()));
        List<String> open = new ArrayList<>();
        List<String> names = new ArrayList<>();
        for (Method m : c.getDeclaredMethods()) {
            if (!Modifier.isPrivate(m.getModifiers())) {
                open.add(told(m));
                names.add(m.getName());
                Check.that(m.getName() + " is public, not static", m.getModifiers() == Modifier.PUBLIC);
            }
        }
        for (Method m : c.getDeclaredMethods()) {
            Check.that(m.getName() + " is private with a name of its own",
                !Modifier.isPrivate(m.getModifiers()) || !names.contains(m.getName()));
        }
        List<String> due = new ArrayList<>(Arrays.asList(FACE));
        Collections.sort(open);
        Collections.sort(due);
        Check.that("the face: " + open, open.equals(due));
        Constructor<?>[] made = c.getDeclaredConstructors();
        Check.that("one constructor", made.length == 1 && made[0].getParameterCount() == 0
            && Modifier.isPublic(made[0].getModifiers()));
        List<String> constants = Arrays.asList("NONE", "BAD", "NO", "FULL");
        for (Field f : c.getDeclaredFields()) {
            boolean open1 = !Modifier.isPrivate(f.getModifiers());
            Check.that("field " + f.getName(), open1 == constants.contains(f.getName()));
        }
    }

    private static void insideClasses() {
        Class<?>[] inside = BumperCars.class.getDeclaredClasses();
        Check.that("not more than twelve classes", inside.length < 12);
        for (Class<?> c : inside) {
            Check.that(c + " is static", Modifier.isStatic(c.getModifiers()) && !Modifier.isPublic(c.getModifiers()));
            for (Method m : c.getDeclaredMethods()) {
                Check.that(m.getName() + " takes seven at most", m.getParameterCount() <= 7);
                for (String one : FACE) {
                    Check.that(m.getName() + " has a name of its own", !one.contains(" " + m.getName() + "("));
                }
            }
            for (Field f : c.getDeclaredFields()) {
                Check.that(f + ": static ones are final",
                    !Modifier.isStatic(f.getModifiers()) || Modifier.isFinal(f.getModifiers()));
            }
        }
    }

    private static String source() throws IOException {
        return Files.readString(Path.of("src/main/java/BumperCars.java"));
    }

    /** The source without comments and texts, its lines kept. */
    private static String code() throws IOException {
        Matcher comments = Pattern.compile("(?s)/\\*.*?\\*/").matcher(source());
        String bare = comments.replaceAll(found -> found.group().replaceAll("[^\n]", " "));
        return bare.replaceAll("//[^\n]*", " ").replaceAll("\"[^\"]*\"", "\"\"");
    }

    private static void words() throws IOException {
        String source = source();
        String code = code();
        String[] none = {"throw", "throws", "try", "catch", "synchronized", "assert", "import", "package", "instanceof",
            "record", "double", "float", "protected"};
        for (String word : none) {
            Check.that("no " + word, !code.matches("(?s).*\\b" + word + "\\b.*"));
        }
        Check.that("no lambda, no method reference", !code.contains("->") && !code.contains("::"));
        for (char sign : source.toCharArray()) {
            if (sign > 126) {
                Check.that("no sign " + (int) sign, false);
            }
        }
        for (String line : code.split("\n")) {
            if (line.contains("new ")) {
                boolean field = line.matches("\\s+(private )?final .* = new [A-Za-z]+(\\(\\)|\\[.*\\]);\\s*");
                boolean part = line.matches("\\s+[a-z]+\\[i\\] = new [A-Z][A-Za-z]*\\(\\);\\s*");
                Check.that("made in a constructor: " + line.trim(), field || part);
            }
        }
    }

    /** What is called by a class's name is of the class itself, or stands in rule 4. */
    private static void libraryCalls() throws IOException {
        List<String> listed = Arrays.asList("Integer.bitCount", "Math.abs", "Math.max", "Math.min", "System.arraycopy");
        List<String> own = new ArrayList<>();
        for (Class<?> c : BumperCars.class.getDeclaredClasses()) {
            own.add(c.getSimpleName());
        }
        Matcher call = Pattern.compile("\\b([A-Z][A-Za-z]*[a-z])\\.([a-z]\\w*)").matcher(code());
        while (call.find()) {
            Check.that("rule 4 has " + call.group(), own.contains(call.group(1)) || listed.contains(call.group()));
        }
        Matcher type = Pattern.compile("\\b[A-Z][A-Za-z]*[a-z]\\b").matcher(code());
        List<String> types = Arrays.asList("BumperCars", "Integer", "Math", "System", "String");
        while (type.find()) {
            Check.that("rule 3 has " + type.group(), own.contains(type.group()) || types.contains(type.group()));
        }
    }

    /** By the braces: a method stands at 4 blanks in the class, at 8 in one inside. */
    private static void lengthOfMethods() throws IOException {
        String[] lines = code().split("\n");
        int seen = 0;
        for (int from = 0; from < lines.length; from++) {
            Matcher head = Pattern.compile("( {4}| {8})\\w[^=;]*\\) \\{").matcher(lines[from]);
            if (head.matches()) {
                int to = from;
                while (to < lines.length && !lines[to].equals(head.group(1) + "}")) {
                    to++;
                }
                if (!lines[from].matches("\\s+(if|for|while|switch) .*")) {
                    seen++;
                    Check.that("sixty lines at most: " + lines[from].trim(), to < lines.length && to - from < 60);
                }
            }
        }
        Check.that("methods were seen: " + seen, seen > 80);
    }

    /** All calls of one run live in one room of 600,000 objects and 7.3 million fields and elements. */
    private static void roomOfOneObject() {
        int[] room = new int[2];
        measure(new BumperCars(), room, Collections.newSetFromMap(new IdentityHashMap<>()));
        Check.that("objects and arrays: " + room[0], room[0] > 200 && room[0] <= 300);
        Check.that("fields and elements: " + room[1], room[1] > 1000 && room[1] <= 2000);
    }

    private static void measure(Object one, int[] room, Set<Object> seen) {
        if (one == null || !seen.add(one)) {
            return;
        }
        room[0]++;
        if (one.getClass().isArray()) {
            int size = Array.getLength(one);
            room[1] += size;
            for (int i = 0; i < size && !one.getClass().getComponentType().isPrimitive(); i++) {
                measure(Array.get(one, i), room, seen);
            }
            return;
        }
        int own = 0;
        for (Field f : one.getClass().getDeclaredFields()) {
            if (!Modifier.isStatic(f.getModifiers())) {
                own++;
                if (!f.getType().isPrimitive()) {
                    measure(valueOf(f, one), room, seen);
                }
            }
        }
        room[1] += own;
        Check.that(one.getClass() + ": twenty fields at most", own <= 20);
    }

    private static Object valueOf(Field f, Object one) {
        try {
            f.setAccessible(true);
            return f.get(one);
        } catch (IllegalAccessException e) {
            throw new IllegalStateException(e);
        }
    }
}

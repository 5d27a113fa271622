import java.io.IOException;
import java.lang.reflect.Constructor;
import java.lang.reflect.Field;
import java.lang.reflect.Method;
import java.lang.reflect.Modifier;
import java.nio.file.Files;
import java.nio.file.Path;
import java.util.ArrayList;
import java.util.Arrays;
import java.util.Collections;
import java.util.List;

/** The face of the document and what of LANGUAGE.md can be seen from outside. Runs in the project's folder. */
public final class LanguageTest {
    private static final String[] FACE = {
        "int floor()", "int car(int,int,int)", "int type(int)", "int clear()", "int read()", "int tick(int)",
        "int hat(int)", "int push(int,int,int)", "int undo()", "int of(int,int)", "int at(int)", "int way(int)",
        "int then(int,int,int)", "int when(int)", "int bumps(int)", "int cluster(int)", "int stand(int)",
        "int steer(int,int,int,int)", "int note(int,int,int,int,int,int,int)", "int forget()", "int is(int)",
        "int look(int)", "int two(int,int,int)", "int bell(int,int)", "int rounds(int,int)", "long part(int)",
        "int image(int)", "int from(int)", "int status(int)", "int count(int)", "long digest()"};

    public static void main(String[] args) throws IOException {
        face();
        insideClasses();
        words();
        Check.end();
    }

    private static String told(Method m) {
        List<String> parameters = new ArrayList<>();
        for (Class<?> type : m.getParameterTypes()) {
            parameters.add(type.getName());
        }
        return m.getReturnType().getName() + " " + m.getName() + "(" + String.join(",", parameters) + ")";
    }

    private static void face() {
        Class<?> c = BumperCars.class;
        Check.that("public and final", Modifier.isPublic(c.getModifiers()) && Modifier.isFinal(c.getModifiers()));
        List<String> open = new ArrayList<>();
        List<String> names = new ArrayList<>();
        for (Method m : c.getDeclaredMethods()) {
            if (!Modifier.isPrivate(m.getModifiers())) {
                open.add(told(m));
                names.add(m.getName());
                Check.that(m.getName() + " is public, not static", m.getModifiers() == Modifier.PUBLIC);
            }
        }
        for (Method m : c.getDeclaredMethods()) {
            Check.that(m.getName() + " is private with a name of its own",
                !Modifier.isPrivate(m.getModifiers()) || !names.contains(m.getName()));
        }
        List<String> due = new ArrayList<>(Arrays.asList(FACE));
        Collections.sort(open);
        Collections.sort(due);
        Check.that("the face: " + open, open.equals(due));
        Constructor<?>[] made = c.getDeclaredConstructors();
        Check.that("one constructor", made.length == 1 && made[0].getParameterCount() == 0
            && Modifier.isPublic(made[0].getModifiers()));
        List<String> constants = Arrays.asList("NONE", "BAD", "NO", "FULL");
        for (Field f : c.getDeclaredFields()) {
            boolean open1 = !Modifier.isPrivate(f.getModifiers());
            Check.that("field " + f.getName(), open1 == constants.contains(f.getName()));
        }
    }

    private static void insideClasses() {
        Class<?>[] inside = BumperCars.class.getDeclaredClasses();
        Check.that("not more than twelve classes", inside.length < 12);
        for (Class<?> c : inside) {
            Check.that(c + " is static", Modifier.isStatic(c.getModifiers()) && !Modifier.isPublic(c.getModifiers()));
            for (Method m : c.getDeclaredMethods()) {
                Check.that(m.getName() + " takes seven at most", m.getParameterCount() <= 7);
                for (String one : FACE) {
                    Check.that(m.getName() + " has a name of its own", !one.contains(" " + m.getName() + "("));
                }
            }
            for (Field f : c.getDeclaredFields()) {
                Check.that(f + ": static ones are final",
                    !Modifier.isStatic(f.getModifiers()) || Modifier.isFinal(f.getModifiers()));
            }
        }
    }

    private static void words() throws IOException {
        String source = Files.readString(Path.of("src/main/java/BumperCars.java"));
        String code = source.replaceAll("(?s)/\\*.*?\\*/", " ").replaceAll("//[^\n]*", " ").replaceAll("\"[^\"]*\"", "\"\"");
        String[] none = {"throw", "throws", "try", "catch", "synchronized", "assert", "import", "package", "instanceof",
            "record", "double", "float", "protected"};
        for (String word : none) {
            Check.that("no " + word, !code.matches("(?s).*\\b" + word + "\\b.*"));
        }
        Check.that("no lambda, no method reference", !code.contains("->") && !code.contains("::"));
        for (char sign : source.toCharArray()) {
            if (sign > 126) {
                Check.that("no sign " + (int) sign, false);
            }
        }
        for (String line : code.split("\n")) {
            if (line.contains("new ")) {
                boolean field = line.matches("\\s+(private )?final .* = new [A-Za-z]+(\\(\\)|\\[.*\\]);\\s*");
                boolean part = line.matches("\\s+[a-z]+\\[i\\] = new [A-Z][A-Za-z]*\\(\\);\\s*");
                Check.that("made in a constructor: " + line.trim(), field || part);
            }
        }
    }
}

import java.io.IOException;
import java.lang.reflect.Field;
import java.lang.reflect.Method;
import java.lang.reflect.Modifier;
import java.nio.file.Files;
import java.nio.file.Path;
import java.util.ArrayList;
import java.util.Arrays;
import java.util.List;
import java.util.TreeSet;
import java.util.regex.Matcher;
import java.util.regex.Pattern;

/** The face as the document writes it, and the rules of LANGUAGE.md that can be seen from outside the code. */
public final class FaceTests {
    private static final Pattern SIGNATURE =
        Pattern.compile("public (\\w+) (\\w+)\\(([^)]*)\\)(?: throws ([\\w, ]+))?;");
    private static final String[] FORBIDDEN = {"->", "::", "\\bfinally\\b", "\\bsynchronized\\b", "\\bassert\\b",
        "\\bMath\\.\\w+Exact\\b", "\\bSystem\\.(?!arraycopy)", "\\bgetMessage\\b", "\\binstanceof\\b",
        "\\bstatic \\{", "\\bprotected\\b", "\\bimport (?!java\\.util\\.NoSuchElementException;)", "^package\\b",
        "\\b(equals|hashCode|toString)\\(", "\\bcatch\\b", "\\bwhile \\(true\\)", "\\bfor \\(;;\\)"};
    private static final int LONGEST_METHOD = 60;
    private static final int MOST_CLASSES = 12;
    private static final int MOST_FIELDS = 20;
    private static final int MOST_PARAMETERS = 7;

    private final Checks checks = new Checks();

    public static void main(String[] args) throws IOException {
        FaceTests tests = new FaceTests();
        tests.face(Files.readString(Path.of("../shared/DOC.md")));
        tests.members();
        tests.source(Files.readAllLines(Path.of("src/main/java/ParkingRobot.java")));
        tests.checks.finish("FaceTests");
    }

    private void face(String document) {
        checks.part("the face");
        TreeSet<String> want = new TreeSet<>();
        Matcher matcher = SIGNATURE.matcher(document);
        while (matcher.find()) {
            String types = matcher.group(3).replaceAll(" \\w+(,|$)", "$1");
            String thrown = matcher.group(4) == null ? "" : matcher.group(4);
            want.add(matcher.group(1) + " " + matcher.group(2) + "(" + types + ") " + thrown);
        }
        TreeSet<String> got = new TreeSet<>();
        for (Method method : ParkingRobot.class.getDeclaredMethods()) {
            if (!Modifier.isPrivate(method.getModifiers())) {
                checks.due(method.getName() + " is public and of an object", method.getModifiers(), Modifier.PUBLIC);
                got.add(method.getReturnType() + " " + method.getName() + "(" + names(method.getParameterTypes())
                    + ") " + names(method.getExceptionTypes()));
            }
        }
        checks.due("the methods", got, want);
        checks.due("their number", got.size(), 29);
        checks.due("the class", ParkingRobot.class.getModifiers(), Modifier.PUBLIC | Modifier.FINAL);
        checks.due("the constructors", ParkingRobot.class.getDeclaredConstructors().length, 1);
        checks.due("public ones", ParkingRobot.class.getConstructors().length, 1);
    }

    private static String names(Class<?>[] types) {
        List<String> names = new ArrayList<>();
        for (Class<?> type : types) {
            names.add(type.getSimpleName());
        }
        return String.join(", ", names);
    }

    private void members() {
        checks.part("the members");
        TreeSet<String> face = new TreeSet<>();
        for (Method method : ParkingRobot.class.getMethods()) {
            if (method.getDeclaringClass() == ParkingRobot.class) {
                face.add(method.getName());
            }
        }
        List<Class<?>> classes = new ArrayList<>(Arrays.asList(ParkingRobot.class.getDeclaredClasses()));
        for (Class<?> inner : classes) {
            checks.due(inner + " is static", Modifier.isStatic(inner.getModifiers()), true);
            checks.due(inner + " is not public", Modifier.isPublic(inner.getModifiers()), false);
            checks.due(inner + " has no classes", inner.getDeclaredClasses().length, 0);
        }
        classes.add(ParkingRobot.class);
        checks.due("few classes", classes.size() <= MOST_CLASSES, true);
        for (Field field : ParkingRobot.class.getDeclaredFields()) {
            checks.due(field + " is private", Modifier.isPrivate(field.getModifiers()), true);
        }
        for (Class<?> one : classes) {
            members(one, face);
        }
    }

    private void members(Class<?> one, TreeSet<String> face) {
        int fields = 0;
        for (Field field : one.getDeclaredFields()) {
            boolean isStatic = Modifier.isStatic(field.getModifiers());
            checks.due(field + " is final if static", !isStatic || Modifier.isFinal(field.getModifiers()), true);
            fields += isStatic ? 0 : 1;
        }
        checks.due("few fields in " + one, fields <= MOST_FIELDS, true);
        for (Method method : one.getDeclaredMethods()) {
            checks.due(method + " takes few parameters", method.getParameterCount() <= MOST_PARAMETERS, true);
            boolean isFace = one == ParkingRobot.class && Modifier.isPublic(method.getModifiers());
            checks.due(method + " bears a public name", face.contains(method.getName()), isFace);
        }
    }

    private void source(List<String> lines) {
        checks.part("the source");
        for (String pattern : FORBIDDEN) {
            Pattern forbidden = Pattern.compile(pattern);
            for (String line : lines) {
                boolean isComment = line.strip().startsWith("/**") || line.strip().startsWith("//");
                checks.due(pattern + " in " + line, !isComment && forbidden.matcher(line).find(), false);
            }
        }
        int begin = -1;
        for (int i = 0; i < lines.size(); i++) {
            String line = lines.get(i);
            checks.due("a line's length: " + line, line.length() <= 120, true);
            if (line.matches(" {4}(?: {4})?[\\w\\[\\] ]+\\(.*") && !line.contains("=")) {
                begin = i;
            }
            if (line.matches(" {4}(?: {4})?}") && begin >= 0) {
                checks.due("a short method: " + lines.get(begin), i - begin < LONGEST_METHOD, true);
                begin = -1;
            }
        }
    }
}

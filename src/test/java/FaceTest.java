import java.lang.reflect.Constructor;
import java.lang.reflect.Field;
import java.lang.reflect.Method;
import java.lang.reflect.Modifier;
import java.nio.file.Files;
import java.nio.file.Path;
import java.util.ArrayList;
import java.util.List;
import java.util.Map;
import java.util.Set;
import java.util.TreeMap;
import java.util.TreeSet;
import java.util.regex.Matcher;
import java.util.regex.Pattern;

/** The public face is that of the document, word for word, and nothing else is to be seen. */
public final class FaceTest {
    private static final Path DOCUMENT = Path.of("../shared/DOC.md");
    private static final Path PROGRAM = Path.of("src/main/java/AtariGarden.java");

    public static void main(String[] args) throws Exception {
        Check check = new Check();
        members(check);
        declarations(check);
        headings(check);
        check.close();
    }

    private static void members(Check check) throws Exception {
        Set<String> told = new TreeSet<>();
        Set<String> names = new TreeSet<>();
        Pattern call = Pattern.compile("^    public (\\w+) (\\w+)\\(([^)]*)\\)(?: throws ([\\w, ]+))?;$");
        for (String line : Files.readAllLines(DOCUMENT)) {
            Matcher matcher = call.matcher(line);
            if (matcher.find()) {
                String types = matcher.group(3).replaceAll("(\\w+) \\w+", "$1");
                String thrown = matcher.group(4) == null ? "" : matcher.group(4);
                told.add(matcher.group(1) + " " + matcher.group(2) + "(" + types + ") " + thrown);
                names.add(matcher.group(2));
            }
        }
        check.same("the document's calls", 23, told.size());

        Set<String> seen = new TreeSet<>();
        for (Method method : AtariGarden.class.getDeclaredMethods()) {
            if (!Modifier.isPrivate(method.getModifiers()) && !method.isSynthetic()) {
                seen.add(shown(method));
                check.same("public alone " + method.getName(), Modifier.PUBLIC, method.getModifiers());
            }
        }
        for (String line : told) {
            check.same("the face has " + line, 1, seen.contains(line) ? 1 : 0);
        }
        for (String line : seen) {
            check.same("the document has " + line, 1, told.contains(line) ? 1 : 0);
        }
        check.same("public and final", Modifier.PUBLIC | Modifier.FINAL, AtariGarden.class.getModifiers());
        Constructor<?>[] constructors = AtariGarden.class.getDeclaredConstructors();
        check.same("constructors", 1, constructors.length);
        check.same("constructor's parameters", 0, constructors[0].getParameterCount());
        check.same("public constructor", Modifier.PUBLIC, constructors[0].getModifiers());
        check.same("constructor's exceptions", 0, constructors[0].getExceptionTypes().length);
        check.same("interfaces", 0, AtariGarden.class.getInterfaces().length);
        check.same("a class of its own", 1, AtariGarden.class.getSuperclass() == Object.class ? 1 : 0);
        for (Field field : AtariGarden.class.getDeclaredFields()) {
            check.same("private " + field.getName(), 1, Modifier.isPrivate(field.getModifiers()) ? 1 : 0);
        }
        for (Class<?> inside : AtariGarden.class.getDeclaredClasses()) {
            check.same("static " + inside.getName(), 1, Modifier.isStatic(inside.getModifiers()) ? 1 : 0);
            for (Method method : inside.getDeclaredMethods()) {
                check.same(inside.getName() + "." + method.getName(), 0, names.contains(method.getName()) ? 1 : 0);
            }
        }
    }

    /** Each line of the document's face, names of parameters included, however the program breaks it. */
    private static void declarations(Check check) throws Exception {
        String program = Files.readString(PROGRAM).replaceAll("\\s+", " ");
        int lines = 0;
        for (String line : Files.readAllLines(DOCUMENT)) {
            if (line.startsWith("    public ")) {
                lines++;
                String declaration = line.trim().replace(";", " {");
                check.same("the program has " + declaration, 1, program.contains(declaration) ? 1 : 0);
            }
        }
        check.same("the document's declarations", 24, lines);
    }

    /** "Ahead of the calls .. the interface says: ---- ..": each call stands below its heading. */
    private static void headings(Check check) throws Exception {
        Map<String, String> placed = new TreeMap<>();
        Pattern face = Pattern.compile("^    public \\w+ (\\w+)\\(.*");
        String heading = "none";
        for (String line : Files.readAllLines(PROGRAM)) {
            heading = line.trim().startsWith("// ---- ") ? line.trim().substring(8) : heading;
            Matcher matcher = face.matcher(line);
            if (matcher.matches()) {
                placed.put(matcher.group(1), heading);
            }
        }
        Pattern ahead = Pattern.compile("^Ahead of the calls (.*) the interface says: ---- (.*)\\.$");
        int calls = 0;
        for (String line : Files.readAllLines(DOCUMENT)) {
            Matcher matcher = ahead.matcher(line);
            if (matcher.matches()) {
                for (String name : matcher.group(1).replace("`", "").split(", ")) {
                    calls++;
                    check.same(name + " below " + matcher.group(2), 1, matcher.group(2).equals(placed.get(name)) ? 1 : 0);
                }
            }
        }
        check.same("the calls below a heading", 23, calls);
    }

    private static String shown(Method method) {
        List<String> types = new ArrayList<>();
        for (Class<?> type : method.getParameterTypes()) {
            types.add(type.getSimpleName());
        }
        List<String> thrown = new ArrayList<>();
        for (Class<?> type : method.getExceptionTypes()) {
            thrown.add(type.getSimpleName());
        }
        return method.getReturnType().getSimpleName() + " " + method.getName() + "(" + String.join(", ", types) + ") "
                + String.join(", ", thrown);
    }
}

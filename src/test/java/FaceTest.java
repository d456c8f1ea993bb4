import java.lang.reflect.Constructor;
import java.lang.reflect.Field;
import java.lang.reflect.Method;
import java.lang.reflect.Modifier;
import java.nio.file.Files;
import java.nio.file.Path;
import java.util.ArrayList;
import java.util.List;
import java.util.Set;
import java.util.TreeSet;
import java.util.regex.Matcher;
import java.util.regex.Pattern;

/** The public face is that of the document, word for word, and nothing else is to be seen. */
public final class FaceTest {
    public static void main(String[] args) throws Exception {
        Check check = new Check();
        Set<String> told = new TreeSet<>();
        Set<String> names = new TreeSet<>();
        Pattern call = Pattern.compile("^    public (\\w+) (\\w+)\\(([^)]*)\\)(?: throws ([\\w, ]+))?;$");
        for (String line : Files.readAllLines(Path.of("../shared/DOC.md"))) {
            Matcher matcher = call.matcher(line);
            if (matcher.find()) {
                String types = matcher.group(3).replaceAll("(\\w+) \\w+", "$1");
                String thrown = matcher.group(4) == null ? "" : matcher.group(4);
                told.add(matcher.group(1) + " " + matcher.group(2) + "(" + types + ") " + thrown);
                names.add(matcher.group(2));
            }
        }
        check.same("the document's calls", 23, told.size());

        Set<String> seen = new TreeSet<>();
        for (Method method : AtariGarden.class.getDeclaredMethods()) {
            if (!Modifier.isPrivate(method.getModifiers()) && !method.isSynthetic()) {
                seen.add(shown(method));
            }
        }
        for (String line : told) {
            check.same("the face has " + line, 1, seen.contains(line) ? 1 : 0);
        }
        for (String line : seen) {
            check.same("the document has " + line, 1, told.contains(line) ? 1 : 0);
        }
        check.same("public and final", Modifier.PUBLIC | Modifier.FINAL, AtariGarden.class.getModifiers());
        Constructor<?>[] constructors = AtariGarden.class.getDeclaredConstructors();
        check.same("constructors", 1, constructors.length);
        check.same("constructor's parameters", 0, constructors[0].getParameterCount());
        for (Field field : AtariGarden.class.getDeclaredFields()) {
            check.same("private " + field.getName(), 1, Modifier.isPrivate(field.getModifiers()) ? 1 : 0);
        }
        for (Class<?> inside : AtariGarden.class.getDeclaredClasses()) {
            check.same("static " + inside.getName(), 1, Modifier.isStatic(inside.getModifiers()) ? 1 : 0);
            for (Method method : inside.getDeclaredMethods()) {
                check.same(inside.getName() + "." + method.getName(), 0, names.contains(method.getName()) ? 1 : 0);
            }
        }
        check.close();
    }

    private static String shown(Method method) {
        List<String> types = new ArrayList<>();
        for (Class<?> type : method.getParameterTypes()) {
            types.add(type.getSimpleName());
        }
        List<String> thrown = new ArrayList<>();
        for (Class<?> type : method.getExceptionTypes()) {
            thrown.add(type.getSimpleName());
        }
        return method.getReturnType().getSimpleName() + " " + method.getName() + "(" + String.join(", ", types) + ") "
                + String.join(", ", thrown);
    }
}

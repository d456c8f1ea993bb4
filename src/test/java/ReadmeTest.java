import java.lang.reflect.InvocationTargetException;
import java.lang.reflect.Method;
import java.nio.file.Files;
import java.nio.file.Path;
import java.util.List;
import java.util.Map;
import java.util.TreeMap;
import java.util.regex.Matcher;
import java.util.regex.Pattern;

/** What README.md says of the class: the answers of its example, and the calls and exceptions of its tables. */
public final class ReadmeTest {
    private static final Pattern STEP = Pattern.compile("^club\\.(\\w+)\\(([-\\d, ]*)\\);\\s+// ([^\\s:]+).*$");
    private static final Pattern ROW = Pattern.compile("^\\| `(\\w+)\\(([^)]*)\\)`.*\\|([^|]*)\\|$");
    private static final Pattern EXCEPTION = Pattern.compile("\\w+Exception");

    private final Check check = new Check();

    public static void main(String[] args) throws Exception {
        ReadmeTest test = new ReadmeTest();
        List<String> lines = Files.readAllLines(Path.of("README.md"));
        test.example(lines);
        test.tables(lines);
        test.check.close();
    }

    private void holds(String what, boolean yes) {
        check.same("README.md: " + what, 1, yes ? 1 : 0);
    }

    private void example(List<String> lines) throws Exception {
        AtariGarden club = new AtariGarden();
        int steps = 0;
        for (String line : lines) {
            Matcher step = STEP.matcher(line);
            if (step.matches()) {
                steps++;
                String answer = answerOf(club, step.group(1), step.group(2));
                holds(line + " -- it answered " + answer, answer.equals(step.group(3)));
            } else {
                holds(line + " -- this is not read", !line.startsWith("club."));
            }
        }
        holds("the example has steps", steps > 20);
    }

    private static String answerOf(AtariGarden club, String name, String list) throws Exception {
        String[] texts = list.isEmpty() ? new String[0] : list.split(", ");
        Object[] arguments = new Object[texts.length];
        for (int i = 0; i < texts.length; i++) {
            arguments[i] = Integer.valueOf(texts[i]);
        }
        try {
            Object answer = methodOf(name).invoke(club, arguments);
            return answer instanceof Character ? "'" + answer + "'" : answer.toString();
        } catch (InvocationTargetException e) {
            return e.getCause().getClass().getSimpleName();
        }
    }

    private static Method methodOf(String name) {
        for (Method method : AtariGarden.class.getMethods()) {
            if (method.getName().equals(name) && method.getDeclaringClass() == AtariGarden.class) {
                return method;
            }
        }
        throw new AssertionError("no call " + name);
    }

    /** Each call has one row, with the parameters and the exceptions of the document's face. */
    private void tables(List<String> lines) throws Exception {
        Map<String, String> rows = new TreeMap<>();
        for (String line : lines) {
            Matcher row = ROW.matcher(line);
            if (row.matches()) {
                String told = row.group(1) + "(" + row.group(2) + ")" + exceptionsIn(row.group(3));
                holds("a second row for " + row.group(1), rows.put(row.group(1), told) == null);
            }
        }
        Pattern call = Pattern.compile("^    public \\w+ (\\w+)\\(([^)]*)\\)(.*);$");
        for (String line : Files.readAllLines(Path.of("../shared/DOC.md"))) {
            Matcher declared = call.matcher(line);
            if (declared.matches()) {
                String parameters = declared.group(2).replaceAll("\\w+ (\\w+)", "$1");
                String due = declared.group(1) + "(" + parameters + ")" + exceptionsIn(declared.group(3));
                holds("a row for " + due, due.equals(rows.remove(declared.group(1))));
            }
        }
        holds("rows that the document does not know: " + rows, rows.isEmpty());
    }

    private static String exceptionsIn(String text) {
        StringBuilder found = new StringBuilder();
        Matcher exception = EXCEPTION.matcher(text);
        while (exception.find()) {
            found.append(' ').append(exception.group());
        }
        return found.toString();
    }
}

import java.nio.file.Files;
import java.nio.file.Path;
import java.util.List;
import java.util.regex.Pattern;

/** Those rules of ../shared/LANGUAGE.md that a look at the words of the program can tell. */
public final class LanguageTest {
    private static final String[] RULED_OUT = {
        "^package ", "^import ", "\\bcatch\\b", "\\bfinally\\b", "\\btry\\b", "->", "::", "\\bsynchronized\\b",
        "\\bassert\\b", "\\binstanceof\\b", "Exact\\(", "\\bprotected\\b", "\\bSystem\\.", "[^\\x01-\\x7f]",
        "\\b(equals|hashCode|toString)\\(", "\\bvolatile\\b", "\\btransient\\b", "\\bnative\\b",
    };

    public static void main(String[] args) throws Exception {
        Check check = new Check();
        List<String> lines = Files.readAllLines(Path.of("src/main/java/AtariGarden.java"));
        int classes = 0;
        for (int i = 0; i < lines.size(); i++) {
            String line = lines.get(i);
            if (line.trim().startsWith("*") || line.trim().startsWith("/")) {
                continue;
            }
            for (String pattern : RULED_OUT) {
                check.same("line " + (i + 1) + " has " + pattern, 0, Pattern.compile(pattern).matcher(line).find() ? 1 : 0);
            }
            classes += line.contains(" class ") ? 1 : 0;
        }
        check.same("some twelve classes", 1, classes <= 12 ? 1 : 0);
        check.close();
    }
}

import java.nio.file.Files;
import java.nio.file.Path;
import java.util.List;
import java.util.regex.Matcher;
import java.util.regex.Pattern;

/** What of ../shared/LANGUAGE.md can be seen in the text of the program. Run from the root. */
public final class LanguageTest {
    private static final Pattern FORBIDDEN = Pattern.compile("\\b(throw|throws|try|catch|finally"
        + "|synchronized|assert|volatile|native|goto|yield|var|instanceof|protected|package"
        + "|equals|hashCode|toString|null|String|Object|System\\.out|Random|Thread|Exact)\\b"
        + "|->|::|Exact\\(");
    private static final Pattern MADE =
        Pattern.compile("^ +(private )?(final|static final) [\\w\\[\\]]+ \\w+ = new .*;$");
    private static final Pattern METHOD =
        Pattern.compile("^( +)(public |private |static )*[\\w\\[\\]]+ \\w+\\((.*)\\) \\{$");

    public static void main(String[] args) throws Exception {
        Due due = new Due("LanguageTest");
        List<String> lines = Files.readAllLines(Path.of("src/main/java/PurseTrace.java"));
        int number = 0;
        for (String line : lines) {
            number++;
            String code = line.strip();
            if (code.startsWith("/**") || code.startsWith("*")) {
                continue;
            }
            String where = "line " + number + ": " + code;
            due.is("import in " + where, code.startsWith("import "),
                code.equals("import java.util.Arrays;"));
            due.is("forbidden in " + where, FORBIDDEN.matcher(code).find(), false);
            due.is("a call that makes an object in " + where,
                code.contains("new ") && !MADE.matcher(line).matches(), false);
            due.is("signs in " + where, line.chars().allMatch(c -> c >= 32 && c < 127), true);
        }
        methods(due, lines);
        due.end();
    }

    private static void methods(Due due, List<String> lines) {
        for (int i = 0; i < lines.size(); i++) {
            Matcher m = METHOD.matcher(lines.get(i));
            if (!m.matches() || lines.get(i).contains(" = ") || lines.get(i).contains("else")) {
                continue;
            }
            int end = i;
            while (!lines.get(end).equals(m.group(1) + "}")) {
                end++;
            }
            due.is("a long method: " + lines.get(i), end - i > 60, false);
            due.is("parameters of " + lines.get(i), m.group(3).split(",").length > 7, false);
        }
    }
}

import java.nio.file.Files;
import java.nio.file.Path;
import java.util.ArrayList;
import java.util.List;
import java.util.regex.Matcher;
import java.util.regex.Pattern;

/** The examples in README.md are the calls below, and answer what they say. Run from the root. */
public final class ReadmeTest {
    /** A statement, and the number that its comment begins with. */
    private static final Pattern ANSWERED = Pattern.compile("^(\\S.*;) +// (-?\\d+)\\b.*$");

    private final List<String> examples = new ArrayList<>();
    private final Due due = new Due("ReadmeTest");
    private int at;

    public static void main(String[] args) throws Exception {
        ReadmeTest test = new ReadmeTest();
        test.gather(Files.readAllLines(Path.of("README.md")));
        test.run();
        test.due.is("all examples were run", test.at, test.examples.size());
        test.due.end();
    }

    private void gather(List<String> lines) {
        boolean inside = false;
        for (String line : lines) {
            if (line.startsWith("```")) {
                inside = line.equals("```java");
            } else if (inside && line.contains("//")) {
                examples.add(line);
            }
        }
    }

    private void run() {
        PurseTrace x = new PurseTrace();
        int holder = x.person();
        next("int holder = x.person();", holder);
        int other = x.person();
        next("int other = x.person();", other);
        int purse = x.purse(holder, 0);
        next("int purse = x.purse(holder, 0);", purse);
        next("x.line(0, purse, other, 100, 0, 9, 9);", x.line(0, purse, other, 100, 0, 9, 9));
        next("x.line(0, purse, holder, 50, 0, 10, 10);", x.line(0, purse, holder, 50, 0, 10, 10));
        next("x.line(2, purse, PurseTrace.NONE, 120, 0, 11, 11);",
            x.line(2, purse, PurseTrace.NONE, 120, 0, 11, 11));
        next("x.left(purse, other, 0, 0);", x.left(purse, other, 0, 0));
        next("x.left(purse, holder, 0, 0);", x.left(purse, holder, 0, 0));
        next("x.lost(purse, other, 0, 0);", x.lost(purse, other, 0, 0));
        next("x.beside(purse, other, purse, 3);", x.beside(purse, other, purse, 3));
        next("x.feed(0x77332873, 0x3E313030, 0x29202020, 0, 0);",
            x.feed(0x77332873, 0x3E313030, 0x29202020, 0, 0));
        next("x.rules(0, 0, 3999, 9);", x.rules(0, 0, 3999, 9));
        next("x.way(2, 0);", x.way(2, 0));
        next("x.left(purse, other, 0, 0);", x.left(purse, other, 0, 0));
    }

    /** The next example of README.md is this statement, and tells this answer. */
    private void next(String statement, int answer) {
        String example = at < examples.size() ? examples.get(at) : "none";
        at++;
        Matcher told = ANSWERED.matcher(example);
        boolean same = told.matches() && told.group(1).equals(statement);
        due.is(statement + " stands in README.md, where there is: " + example, same, true);
        if (same) {
            due.is(statement, answer, Integer.parseInt(told.group(2)));
        }
    }
}

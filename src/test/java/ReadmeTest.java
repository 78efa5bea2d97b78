import java.io.IOException;
import java.nio.file.Files;
import java.nio.file.Path;
import java.util.ArrayList;
import java.util.List;
import java.util.regex.MatchResult;
import java.util.regex.Matcher;
import java.util.regex.Pattern;
import java.util.stream.Collectors;

/** What README.md says of the class: its example answers so, and its tables tell what the document tells. */
public final class ReadmeTest {
    private static final Path PLACE = Path.of("README.md");
    private static final Pattern REFUSAL = Pattern.compile("\\b(UNKNOWN|OUTSIDE|STATE|FULL)\\b");
    private static final Pattern TYPED = Pattern.compile("\"([^\"]+)\"\\.toCharArray\\(\\)");
    private static final Pattern ASKED = Pattern.compile("order\\.(\\w+\\([^()]*\\)); +// (-?\\d+): .*");
    private static final Pattern HEAD = Pattern.compile("`(?:int|long) (\\w+)\\(([^()]*)\\)`");

    private final Check check = new Check();
    private final String readme;
    private final Document document;

    private ReadmeTest() throws IOException {
        readme = Files.readString(PLACE);
        document = new Document();
    }

    public static void main(String[] args) throws IOException {
        ReadmeTest test = new ReadmeTest();
        test.example();
        test.calls();
        test.kinds();
        test.constants();
        test.tests();
        test.check.end("ReadmeTest");
    }

    private void example() {
        check.part("the example");
        int from = readme.indexOf("```java\n");
        String code = readme.substring(from, readme.indexOf("\n```\n", from));
        Matcher typed = TYPED.matcher(code);
        LaneOrder x = Calls.typed(typed.find() ? typed.group(1) : "");
        Matcher asked = ASKED.matcher(code);
        int rows = 0;
        while (asked.find()) {
            check.due(asked.group(1), Calls.ask(x, asked.group(1)), Long.parseLong(asked.group(2)));
            rows++;
        }
        check.same("there are rows enough", rows >= 5, true);
    }

    /** Each promise of a call has a row, in the document's order, with its arguments and refusals as they stand there. */
    private void calls() {
        check.part("the table of calls");
        List<String> due = new ArrayList<>();
        for (int promise = 2; promise <= Document.PROMISES; promise++) {
            String section = document.section(promise);
            Matcher head = HEAD.matcher(section);
            if (!head.find()) {
                check.fail("promise " + promise + " names no call");
                continue;
            }
            String names = head.group(2).replaceAll("\\b(int|boolean) ", "");
            String refusals = REFUSAL.matcher(section).results().map(MatchResult::group).collect(Collectors.joining(", "));
            due.add("`" + head.group(1) + "(" + names + ")` " + refusals);
        }
        List<String> told = rows("`\\w+\\([\\w, ]*\\)`").stream().map(row -> row[0] + " " + row[row.length - 1]).toList();
        check.same("the calls and how they are refused", told, due);
    }

    private void kinds() {
        check.part("the table of kinds");
        for (String[] row : rows("[0-4]")) {
            String letter = row[1].replace("`", "");
            check.due("the kind of " + letter, Calls.ask(Calls.read(letter + "0011;0"), "box(0, 0)"), Long.parseLong(row[0]));
        }
        check.same("how many kinds", rows("[0-4]").size(), 5);
    }

    private void constants() {
        check.part("the table of constants");
        check.same("their names", rows("`UNKNOWN`").stream().map(row -> String.join(" ", row)).toList(), List.of("`UNKNOWN` `OUTSIDE` `STATE` `FULL`"));
        String due = LaneOrder.UNKNOWN + " " + LaneOrder.OUTSIDE + " " + LaneOrder.STATE + " " + LaneOrder.FULL;
        check.same("their numbers", rows("-10\\d").stream().map(row -> String.join(" ", row)).toList(), List.of(due));
        check.same("NONE is told", readme.contains("`NONE` (" + LaneOrder.NONE + ")"), true);
    }

    private void tests() throws IOException {
        check.part("the tests");
        try (var files = Files.list(Path.of("src/test/java"))) {
            for (Path file : files.filter(file -> file.toString().endsWith("Test.java")).toList()) {
                String name = file.getFileName().toString().replace(".java", "");
                check.same(name + " is told", readme.contains("\n- `" + name + "`: "), true);
            }
        }
    }

    /** The cells of all rows of a table whose first cell is such a one. */
    private List<String[]> rows(String first) {
        return readme.lines().filter(line -> line.matches("\\| " + first + " \\|.*\\|"))
            .map(line -> line.substring(1, line.length() - 1).split("\\|", -1))
            .map(ReadmeTest::stripped).toList();
    }

    private static String[] stripped(String[] cells) {
        for (int i = 0; i < cells.length; i++) {
            cells[i] = cells[i].strip();
        }
        return cells;
    }
}

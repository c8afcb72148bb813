import java.io.IOException;
import java.util.List;
import java.util.regex.Matcher;
import java.util.regex.Pattern;

/** The example in README.md answers what it says, and its tables have each call with what it throws. */
public final class ReadmeTest {
    private static final Pattern EXAMPLE = Pattern.compile("house\\.(.*);\\s+// (.*)");
    private static final Pattern TOLD = Pattern.compile("(answers |throws )(-?\\w+).*");
    private static final Pattern METHOD = Pattern.compile("\\w+ (\\w+)\\((.*?)\\)(.*)");
    private static final int FIELDS = 4;

    private static final Check CHECK = new Check();

    public static void main(String[] args) throws IOException {
        List<String> readme = Texts.readme();
        example(Texts.block(readme));
        for (String method : Texts.methods()) {
            table(readme, method);
        }
        CHECK.end();
    }

    private static void example(List<String> lines) {
        Caller house = new Caller(new DiagramHouse());
        CHECK.due("README.md has an example", lines.size() > 1, true);
        for (String line : lines.subList(1, lines.size())) {
            Matcher example = EXAMPLE.matcher(line);
            CHECK.due("'" + line + "' is a call with a comment", example.matches(), true);
            String got = house.answerText(example.group(1).replace("DiagramHouse.NONE", "-1"));
            Matcher told = TOLD.matcher(example.group(2));
            String want = !told.matches() ? Caller.DONE
                : told.group(1).equals("throws ") ? "throws." + told.group(2) : told.group(2);
            CHECK.due(line, got, want);
        }
    }

    /** The row has a field for each exception, which is empty if the call does not throw it. */
    private static void table(List<String> readme, String method) {
        Matcher parts = METHOD.matcher(method);
        CHECK.due("'" + method + "' is a method", parts.matches(), true);
        String call = "`" + parts.group(1) + "(" + parts.group(2).replaceAll("(int|boolean) ", "") + ")`";
        List<String> rows = readme.stream().filter(line -> line.startsWith("| " + call + " |")).toList();
        CHECK.due("rows for " + call, rows.size(), 1);
        for (String row : rows) {
            String[] fields = row.substring(1).split("\\|");
            CHECK.due("the fields for " + call, fields.length, FIELDS);
            CHECK.due(call + " throws an index", !fields[2].isBlank(), parts.group(3).contains("IndexOutOfBounds"));
            CHECK.due(call + " throws an argument", !fields[3].isBlank(), parts.group(3).contains("IllegalArgument"));
        }
    }
}

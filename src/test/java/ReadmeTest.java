import java.io.IOException;
import java.lang.reflect.Method;
import java.nio.file.Files;
import java.nio.file.Path;
import java.util.List;
import java.util.Set;
import java.util.TreeSet;
import java.util.regex.Matcher;
import java.util.regex.Pattern;

/** README.md: its example answers as it says, its groups are the document's, and each call stands in its own. */
public final class ReadmeTest {
    private static final Path README = Path.of("README.md");
    private static final Path DOCUMENT = Path.of("../shared/DOC.md");
    private static final Path TESTS = Path.of("src/test/java");
    private static final Check CHECK = new Check();

    public static void main(String[] args) throws IOException {
        String readme = Files.readString(README);
        example(readme);
        groups(readme, Files.readString(DOCUMENT));
        tests(readme);
        CHECK.end();
    }

    /** Each line is a call on x, and behind it the answer that it has. */
    private static void example(String readme) throws IOException {
        Matcher code = Pattern.compile("(?s)```java\n(.*?)```").matcher(readme);
        CHECK.due("an example", code.find(), true);
        Scene s = new Scene();
        Set<String> shown = new TreeSet<>();
        Pattern call = Pattern.compile("x\\.(\\w+)\\(([^)]*)\\); +// (true|false|-?\\d+)(: .*)?");
        for (String line : code.group(1).split("\n")) {
            boolean opens = line.isEmpty() || line.startsWith("// ") || line.equals("PollBooks x = new PollBooks();");
            Matcher m = call.matcher(line);
            CHECK.due("of the example's kinds: " + line, opens || m.matches(), true);
            if (!opens && m.matches()) {
                shown.add(m.group(1));
                String due = m.group(3);
                CHECK.due(line, s.ask(m.group(1), numbers(m.group(2))),
                    due.equals("true") ? 1 : due.equals("false") ? 0 : Long.parseLong(due));
            }
        }
        CHECK.due("calls of all groups", shown.size() > 30, true);
    }

    private static long[] numbers(String list) {
        if (list.isEmpty()) {
            return new long[0];
        }
        String[] parts = list.split(", ");
        long[] numbers = new long[parts.length];
        for (int i = 0; i < parts.length; i++) {
            String part = parts[i].replace("L", "");
            numbers[i] = part.equals("true") ? 1 : part.equals("false") ? 0 : Long.decode(part);
        }
        return numbers;
    }

    /** The document: "Ahead of the calls .. the interface says: ---- ..". */
    private static void groups(String readme, String document) {
        Set<String> left = new TreeSet<>();
        for (Method m : PollBooks.class.getMethods()) {
            if (m.getDeclaringClass() == PollBooks.class) {
                left.add(m.getName());
            }
        }
        left.remove("status");
        CHECK.due("status() is told", readme.contains("`status()`"), true);
        Matcher m = Pattern.compile("Ahead of the calls (.*) the interface says: (---- .*)\\.\n").matcher(document);
        while (m.find()) {
            int from = readme.indexOf("\n### " + m.group(2) + "\n");
            CHECK.due("a part for " + m.group(2), from >= 0, true);
            String part = from < 0 ? "" : readme.substring(from, readme.indexOf("\n### ", from + 1));
            for (String name : m.group(1).replace("`", "").split(", ")) {
                CHECK.due(name + " stands in " + m.group(2), part.contains("`" + name + "`"), true);
                left.remove(name);
            }
        }
        CHECK.due("no call is left: " + left, left.isEmpty(), true);
        for (String status : List.of("a number that can't be", "the TRAY is MISSING", "one too many", "a FAULT")) {
            CHECK.due("STATUS: " + status, readme.contains("| " + status), true);
        }
    }

    private static void tests(String readme) throws IOException {
        Matcher m = Pattern.compile("`(\\w+Test)`").matcher(readme);
        while (m.find()) {
            CHECK.due(m.group(1) + " is there", Files.exists(TESTS.resolve(m.group(1) + ".java")), true);
        }
        CHECK.due("how to run the tests", readme.contains("\n    .ci/run\n"), true);
    }
}

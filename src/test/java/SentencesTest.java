import java.io.IOException;
import java.nio.file.Files;
import java.nio.file.Path;
import java.util.Set;
import java.util.TreeSet;

/** The list of sentences and tests is true: each sentence stands in the document where the list says, each test is run. */
public final class SentencesTest {
    private static final Path LIST = Path.of("src/test/SENTENCES.txt");
    private static final Path TESTS = Path.of("src/test/java");
    private static final Path DOCUMENT = Path.of("../shared/DOC.md");
    private static final int PROMISES = 46;
    private static final Check CHECK = new Check();

    public static void main(String[] args) throws IOException {
        String document = plain(Files.readString(DOCUMENT));
        Set<String> told = new TreeSet<>();
        for (String line : Files.readAllLines(LIST)) {
            if (!line.isEmpty() && !line.startsWith("#")) {
                String[] parts = line.split(" \\| ");
                CHECK.due("three parts: " + line, parts.length, 3);
                told.add(parts[0]);
                String where = part(document, parts[0]);
                CHECK.due(parts[0] + " says: " + parts[1], where.contains(plain(parts[1])), true);
                for (String test : parts[2].split(" ")) {
                    isRun(test);
                }
            }
        }
        for (int promise = 1; promise <= PROMISES; promise++) {
            CHECK.due("a line of Promise " + promise, told.contains("Promise " + promise), true);
        }
        CHECK.due("lines of Terms", told.contains("Terms"), true);
        CHECK.end();
    }

    private static String plain(String text) {
        return text.replaceAll("\\s+", " ");
    }

    /** What stands under a heading, up to the next one. */
    private static String part(String document, String heading) {
        String head = heading.equals("Terms") ? "## Terms " : "## " + heading + ":";
        int from = document.indexOf(head);
        CHECK.due(heading + " is in the document", from >= 0, true);
        if (from < 0) {
            return "";
        }
        int to = document.indexOf(" ## ", from + 1);
        return document.substring(from, to < 0 ? document.length() : to);
    }

    /** A test is a method that the main of its class calls. */
    private static void isRun(String test) throws IOException {
        String[] names = test.split("\\.");
        Path file = TESTS.resolve(names[0] + ".java");
        String source = Files.exists(file) ? Files.readString(file) : "";
        CHECK.due(test + " is there", source.contains("private static void " + names[names.length - 1] + "()"), true);
        int main = source.indexOf("public static void main(");
        int end = source.indexOf("CHECK.end();", main);
        boolean run = main >= 0 && end > main && source.substring(main, end).contains(" " + names[names.length - 1] + "();");
        CHECK.due(test + " is run", run, true);
    }
}

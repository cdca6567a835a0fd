import java.io.IOException;
import java.nio.file.Files;
import java.nio.file.Path;
import java.util.Map;
import java.util.TreeMap;
import java.util.regex.Pattern;

/**
 * The list of sentences and tests is true: each sentence stands in the document where the list says, each test is run, and
 * the list has all words of the Terms and of the promises.
 */
public final class SentencesTest {
    private static final Path LIST = Path.of("src/test/SENTENCES.txt");
    private static final Path TESTS = Path.of("src/test/java");
    private static final Path DOCUMENT = Path.of("../shared/DOC.md");
    private static final int PROMISES = 46;
    /** What stands around the sentences: heads, marks of blocks and parts, signatures, and what FaceTest holds. */
    private static final String[] FRAME = {"^## Terms ", "^## Promise \\d+: [^`]*`[^`]*`:", "```text", "```", "==== \\d\\.",
        "Ahead of the calls .* ---- MEMBERS, COACHES\\."};
    private static final Check CHECK = new Check();

    public static void main(String[] args) throws IOException {
        String document = plain(Files.readString(DOCUMENT));
        Map<String, StringBuilder> left = new TreeMap<>();
        left.put("Terms", new StringBuilder(part(document, "Terms")));
        for (int promise = 1; promise <= PROMISES; promise++) {
            left.put("Promise " + promise, new StringBuilder(part(document, "Promise " + promise)));
        }
        for (String line : Files.readAllLines(LIST)) {
            if (!line.isEmpty() && !line.startsWith("#")) {
                String[] parts = line.split(" \\| ");
                CHECK.due("three parts: " + line, parts.length, 3);
                strike(left.get(parts[0]), part(document, parts[0]), plain(parts[1]), parts[0]);
                for (String test : parts[2].split(" ")) {
                    isRun(test);
                }
            }
        }
        for (Map.Entry<String, StringBuilder> e : left.entrySet()) {
            String words = e.getValue().toString().replaceAll("[\\W_]+", " ").strip();
            CHECK.due("words of " + e.getKey() + " that no line has: " + words, words.isEmpty(), true);
        }
        CHECK.end();
    }

    private static String plain(String text) {
        return text.replaceAll("\\s+", " ");
    }

    /** Strikes some words out of what is left of a part, by blanks. */
    private static void strike(StringBuilder left, String part, String words, String where) {
        int from = part.indexOf(words);
        CHECK.due(where + " says: " + words, from >= 0, true);
        for (int i = Math.max(0, from); i < from + words.length(); i++) {
            left.setCharAt(i, ' ');
        }
    }

    /** What stands under a heading, up to the next one; what frames it is blank. */
    private static String part(String document, String heading) {
        String head = heading.equals("Terms") ? "## Terms " : "## " + heading + ":";
        int from = document.indexOf(head);
        CHECK.due(heading + " is in the document", from >= 0, true);
        if (from < 0) {
            return "";
        }
        int to = document.indexOf(" ## ", from + 1);
        String part = document.substring(from, to < 0 ? document.length() : to);
        for (String frame : FRAME) {
            part = Pattern.compile(frame).matcher(part).replaceAll(m -> " ".repeat(m.group().length()));
        }
        return part;
    }

    /** A test is a method that the main of its class calls. */
    private static void isRun(String test) throws IOException {
        String[] names = test.split("\\.");
        Path file = TESTS.resolve(names[0] + ".java");
        String source = Files.exists(file) ? Files.readString(file) : "";
        CHECK.due(test + " is there", source.contains("private static void " + names[names.length - 1] + "()"), true);
        int main = source.indexOf("public static void main(");
        int end = source.indexOf("CHECK.end();", main);
        boolean run = main >= 0 && end > main && source.substring(main, end).contains(" " + names[names.length - 1] + "();");
        CHECK.due(test + " is run", run, true);
    }
}

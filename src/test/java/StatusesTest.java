import java.io.IOException;
import java.nio.file.Files;
import java.nio.file.Path;
import java.util.Map;
import java.util.Set;
import java.util.TreeMap;
import java.util.TreeSet;
import java.util.function.Supplier;
import java.util.regex.Matcher;
import java.util.regex.Pattern;

/** Calls of each promise: one with each STATUS that the document names for it, and one with STATUS 0. */
public final class StatusesTest {
    private static final Path DOCUMENT = Path.of("../shared/DOC.md");
    private static final int PROMISES = 46;
    /** More than the most of anything: then one is too many. */
    private static final int ENOUGH = 90;
    private static final Check CHECK = new Check();
    private static final Trial BARE = new Trial(CHECK, Scene::new);
    private static final Trial SOME = new Trial(CHECK, Scene::make);
    private static final Map<String, Set<Integer>> SEEN = new TreeMap<>();

    public static void main(String[] args) throws IOException {
        trays();
        persons();
        texts();
        comers();
        books();
        thePoll();
        grounds();
        members();
        coaches();
        asTheDocumentNamesThem();
        CHECK.end();
    }

    private static void saw(String name, int status) {
        SEEN.computeIfAbsent(name, n -> new TreeSet<>()).add(status);
    }

    private static void fine(Trial trial, String name, long... a) {
        trial.taken(name, a);
        saw(name, 0);
    }

    private static void refused(Trial trial, int status, String name, long... a) {
        trial.refused(status, name, a);
        saw(name, status);
    }

    /** The same call again and again, until one is too many. */
    private static void full(Supplier<Scene> maker, String name, long... a) {
        Scene s = maker.get();
        long answer = 0;
        for (int i = 0; i < ENOUGH && s.status() == 0; i++) {
            answer = s.ask(name, a);
        }
        CHECK.due("one " + name + " too many", answer, Scene.tells(name) ? 0 : -1);
        CHECK.due("its STATUS", s.status(), 4);
        saw(name, 4);
    }

    private static void full(String name, long... a) {
        full(Scene::make, name, a);
    }

    private static void trays() {
        fine(SOME, "tray", 3, 0, 60);
        refused(SOME, 1, "tray", 4, 0, 60);
        fine(SOME, "write", 1, 0, -1);
        refused(SOME, 1, "write", 4, 0, -1);
        refused(BARE, 2, "write", 1, 0, -1);
        refused(SOME, 3, "write", 1, 60, -1);
        fine(SOME, "read", 1, 59);
        refused(SOME, 1, "read", -1, 59);
        refused(BARE, 2, "read", 1, 59);
        refused(SOME, 3, "read", 1, -1);
        fine(SOME, "pour", 0, 0, 3, 1, 7);
        refused(SOME, 1, "pour", 0, 0, 3, -1, 7);
        refused(BARE, 2, "pour", 0, 0, 3, 1, 7);
        refused(SOME, 8, "pour", 0, 0, 1, 1, 7);
        refused(SOME, 3, "pour", 0, 0, 3, 2, 7);
    }

    private static void persons() {
        fine(BARE, "far", 1, 2);
        refused(BARE, 1, "far", 1, 0);
        fine(SOME, "person", 1, 19, 6);
        refused(SOME, 1, "person", 1, 20, 6);
        full("person", 1, 19, 6);
        fine(SOME, "hold", 4, 39, 1000, 9, 9, 50);
        refused(SOME, 1, "hold", 4, 39, 1000, 9, 8, 50);
        full("hold", 4, 39, 1000, 9, 9, 50);
        refused(SOME, 5, "hold", 4, 39, 1000, 9, 9, 49);
        fine(SOME, "split", 0, 9999, 9999);
        refused(SOME, 1, "split", 0, 9999, 10000);
        full("split", 0, 9999, 9999);
        refused(SOME, 5, "split", 0, 9999, 0);
        fine(SOME, "pay", 0, 1, 0, 1, 51);
        refused(SOME, 1, "pay", 0, 0, 0, 1, 51);
        full("pay", 0, 1, 0, 1, 51);
        refused(SOME, 5, "pay", 0, 1, 0, 1, 1);
        fine(SOME, "asof", 0);
        refused(SOME, 1, "asof", -1);
        fine(SOME, "fact", 4, 6, 9999, 6);
        refused(SOME, 1, "fact", 5, 6, 9999, 6);
    }

    private static void texts() {
        fine(SOME, "text", 19, 0, 127);
        refused(SOME, 1, "text", Scene.TAPED + 1, 0, 127);
        full("text", 0, 0, 127);
        Scene s = Scene.make();
        CHECK.due("text() with a FAULT", s.ask("text", 1, 0, 127), -1);
        CHECK.due("its STATUS", s.status(), 9);
        saw("text", 9);
        CHECK.due("its FAULT", s.ask("fault", 0), 2);
        CHECK.due("an empty tape", s.ask("feed", 0, 0, 0, 0, 0), 20);
        fine(SOME, "rules", 6, 9999);
        refused(SOME, 1, "rules", 7, 9999);
        fine(SOME, "struck", 0, 150, Scene.RULES - 1);
        refused(SOME, 1, "struck", 0, 150, Scene.RULES);
        fine(SOME, "names", 0, 0);
        refused(SOME, 1, "names", 0, -1);
    }

    private static void comers() {
        fine(SOME, "right", 0, 0, 150, 600);
        refused(SOME, 1, "right", 0, 0, 150, 1440);
        fine(SOME, "why", 0, 0, 150, 600);
        refused(SOME, 1, "why", 0, 0, 150, -1);
        Trial noTexts = new Trial(CHECK, () -> {
            Scene s = new Scene();
            s.ask("person", 1, 0, 0);
            return s;
        });
        refused(noTexts, 6, "why", 0, 0, 150, 600);
        fine(SOME, "voided", 0, 0, 150, 600);
        refused(SOME, 1, "voided", -1, 0, 150, 600);
    }

    private static void books() {
        fine(SOME, "entry", 2, 1, -1, 1439, 15);
        refused(SOME, 1, "entry", 2, 1, -2, 1439, 15);
        full("entry", 2, 1, -1, 1439, 15);
        fine(SOME, "join", 2);
        refused(SOME, 1, "join", 0);
        fine(SOME, "mate", 1, 0);
        refused(SOME, 1, "mate", 0, 0);
        refused(SOME, 6, "mate", 2, 4);
        fine(SOME, "joined", 5);
        refused(SOME, 1, "joined", 6);
        fine(SOME, "tally", 3, 3);
        refused(SOME, 1, "tally", 4, 3);
        fine(SOME, "reach", 30);
        refused(SOME, 1, "reach", 31);
        fine(SOME, "who", 0);
        refused(SOME, 1, "who", 6);
        refused(SOME, 6, "who", 3);
        fine(SOME, "sure", 0, 1);
        refused(SOME, 1, "sure", 0, 2);
        refused(SOME, 6, "sure", 3, 1);
        fine(SOME, "offer", 0, 1, 0);
        refused(SOME, 1, "offer", 0, 0, 0);
        full("offer", 0, 1, 0);
    }

    private static void thePoll() {
        fine(SOME, "standing", 3, 0, 150);
        refused(SOME, 1, "standing", 3, 0, 10000);
        fine(SOME, "stands", 2, 0, 150);
        refused(SOME, 1, "stands", 3, 0, 150);
        fine(SOME, "poll", 3, 0, 150, 1);
        refused(SOME, 1, "poll", 4, 0, 150, 1);
        fine(SOME, "seated", 1, 0, 150, 1);
        refused(SOME, 1, "seated", 2, 0, 150, 1);
    }

    private static void grounds() {
        fine(SOME, "ground", 0, 0);
        refused(SOME, 1, "ground", 0, 6);
        refused(SOME, 7, "ground", 0, 1);
        Trial ten = new Trial(CHECK, () -> {
            Scene s = new Scene();
            for (int i = 0; i < 11; i++) {
                s.ask("entry", 0, 1 + i, -1, 0, 1);
                s.ask("ground", 0, i);
            }
            return s;
        });
        refused(ten, 4, "ground", 0, 10);
        fine(SOME, "against", 3, 0);
        refused(SOME, 1, "against", 3, 3);
        refused(SOME, 7, "against", 2, 0);
        fine(SOME, "written", 3, 15);
        refused(SOME, 1, "written", 3, 16);
        fine(SOME, "turns", 0, 0);
        refused(SOME, 1, "turns", 0, 3);
        refused(BARE, 6, "turns", 3, 0);
    }

    private static void members() {
        fine(SOME, "member", -9, 20);
        refused(SOME, 1, "member", -10, 20);
        full("member", -9, 20);
        fine(SOME, "kin", 3, 20);
        refused(SOME, 1, "kin", 3, 21);
        fine(SOME, "draw", 5, 0, 0);
        refused(SOME, 1, "draw", 5, 6, 0);
        refused(SOME, 6, "draw", 6, 0, 0);
        fine(SOME, "bench", 1);
        refused(SOME, 1, "bench", -1);
        refused(SOME, 6, "bench", Scene.BENCH);
    }

    private static void coaches() {
        fine(SOME, "miles", 0, 1, 1000);
        refused(SOME, 1, "miles", 1, 1, 1000);
        fine(SOME, "coaches", 6, 0, 20);
        refused(SOME, 1, "coaches", 6, 0, 21);
        refused(BARE, 2, "coaches", 6, 0, 20);
        refused(SOME, 3, "coaches", 6, 2, 20);
        fine(SOME, "coachMany");
        refused(BARE, 6, "coachMany");
    }

    /** The last bracket of a promise names them, each at the head of its part; 0 is for all that have a STATUS. */
    private static void asTheDocumentNamesThem() throws IOException {
        Pattern promise = Pattern.compile("## Promise (\\d+): [^\n]*\n\n`(?:\\w+ )?(\\w+)\\([^`]*`: ([^\n]*)");
        Matcher m = promise.matcher(Files.readString(DOCUMENT));
        int many = 0;
        while (m.find()) {
            many++;
            CHECK.due("in order", Integer.parseInt(m.group(1)), many);
            Set<Integer> named = named(m.group(3));
            Set<Integer> seen = SEEN.getOrDefault(m.group(2), Set.of());
            CHECK.due(m.group(2) + "() here with " + seen + ", the document names " + named, named.equals(seen), true);
        }
        CHECK.due("promises", many, PROMISES);
    }

    private static Set<Integer> named(String promise) {
        Set<Integer> named = new TreeSet<>();
        int from = promise.lastIndexOf('(');
        if (from >= 0) {
            for (String part : promise.substring(from + 1, promise.indexOf(')', from)).split("[;,]")) {
                if (part.strip().matches("\\d(:.*)?")) {
                    named.add(part.strip().charAt(0) - '0');
                }
            }
        }
        if (!named.isEmpty()) {
            named.add(0);
        }
        return named;
    }
}

import java.lang.reflect.Method;
import java.lang.reflect.Modifier;
import java.nio.charset.StandardCharsets;
import java.util.Arrays;
import java.util.HashMap;
import java.util.Map;

/** One election with something of everything in it, and all that can be told of it: two alike are told alike. */
final class Scene {
    static final int PERSONS = 5;
    static final int ENTRIES = 6;
    static final int OFFERS = 3;
    static final int GROUNDS = 4;
    static final int LAST_KNOWN = 50;
    static final int RULES = 7;
    static final int TAPED = 40;
    static final int BENCH = 2;
    private static final int MOST_CALLS = 512;
    private static final Map<String, Method> FACE = face();

    final PollBooks x = new PollBooks();
    private int calls;

    private static Map<String, Method> face() {
        Map<String, Method> face = new HashMap<>();
        for (Method m : PollBooks.class.getDeclaredMethods()) {
            if (Modifier.isPublic(m.getModifiers())) {
                face.put(m.getName(), m);
            }
        }
        return face;
    }

    static boolean tells(String name) {
        return FACE.get(name).getReturnType() == boolean.class;
    }

    /** A call by its name, booleans as 1 and 0; beyond what the document allows of calls nothing could be told. */
    long ask(String name, long... a) {
        calls++;
        if (calls > MOST_CALLS) {
            throw new IllegalStateException("more calls than an object is used for");
        }
        Method m = FACE.get(name);
        Object[] boxed = new Object[a.length];
        for (int i = 0; i < a.length; i++) {
            Class<?> type = m.getParameterTypes()[i];
            boxed[i] = type == long.class ? (Object) a[i] : type == boolean.class ? (Object) (a[i] != 0) : (Object) (int) a[i];
        }
        try {
            Object answer = m.invoke(x, boxed);
            return answer instanceof Boolean b ? b ? 1 : 0 : ((Number) answer).longValue();
        } catch (ReflectiveOperationException e) {
            throw new IllegalStateException(name + Arrays.toString(a) + " threw " + e.getCause(), e);
        }
    }

    int status() {
        return (int) ask("status");
    }

    void feedAll(String text) {
        byte[] bytes = text.getBytes(StandardCharsets.ISO_8859_1);
        for (int i = 0; i < bytes.length; i += 20) {
            int[] f = Check.five(bytes, i);
            ask("feed", f[0], f[1], f[2], f[3], f[4]);
        }
    }

    long enact(String text, int day, int places) {
        feedAll(text);
        return ask("text", text.length(), day, places);
    }

    static Scene make() {
        Scene s = new Scene();
        s.makeTrays();
        s.makePersons();
        s.makeTexts();
        s.makeBooks();
        s.makeHouse();
        return s;
    }

    private void makeTrays() {
        int[] waiting = {3, 0, 5, 25, 1, 0, 100};
        ask("tray", 0, 0, 7);
        ask("tray", 1, 3, 60);
        ask("tray", 2, 2, 0);
        ask("tray", 3, 0, 8);
        for (int p = 0; p < 7; p++) {
            ask("write", 0, p, waiting[p]);
        }
        ask("write", 1, 59, -5);
        ask("write", 3, 1, 9);
        ask("write", 3, 7, -1);
    }

    private void makePersons() {
        String[] names = {"smith", "hall", "hale", "wood", "york"};
        int[] trades = {3, 19, 0, 5, 7};
        int[] homes = {0, 6, 1, 2, 3};
        for (int i = 0; i < PERSONS; i++) {
            ask("person", Check.name(names[i]), trades[i], homes[i]);
        }
        ask("hold", 0, 5, 30, 100, 500, 10);
        ask("hold", 0, 39, 15, 120, 9999, 20);
        ask("hold", 1, 5, 50, 0, 9999, 20);
        ask("split", 5, 130, 30);
        ask("pay", 2, 10, 90, 1, 30);
        ask("pay", 0, 7, 140, 0, 40);
        ask("pay", 0, 8, 141, 1, 40);
        ask("hold", 3, 7, 99, 0, 9999, LAST_KNOWN);
        // ahead of the last DAY known, so that AS OF and what is KNOWN can both be told
        ask("asof", 45);
    }

    private void makeTexts() {
        enact("all: may day < 10000; rich: bar land > 44; open: hours 300 to 900;", 0, 127);
        enact("sold: void paid > 9; free strikes rich: names 3; late: may minute > 0; end: names 1;", 100, 3);
        enact("a: names 7;", 0, 1);
        feedAll("z: names 4;         y: names 3;         ");
    }

    private void makeBooks() {
        long[] names = {Check.name("smith"), Check.name("hall"), Check.name("hole"), Check.name("zzzzzzzz"), Check.name("smith"),
            Check.name("wood")};
        int[] trades = {3, 19, -1, 4, 3, 5};
        int[] sets = {1, 3, 2, 4, 8, 12};
        for (int i = 0; i < ENTRIES; i++) {
            ask("entry", 0, names[i], trades[i], 600 + 10 * i, sets[i]);
        }
        int[] others = {1, 0, 3, 5};
        for (int i : others) {
            ask("entry", 1, names[i], trades[i], 600 + 10 * i, sets[i] ^ 2);
        }
        ask("entry", 2, names[1], -1, 600, 1);
        ask("entry", 2, names[5], -1, 650, 6);
        ask("reach", 7);
        ask("offer", 2, 4, 700);
        ask("offer", 4, 4, 700);
        ask("offer", 4, 8, 100);
    }

    private void makeHouse() {
        ask("ground", 0, 1);
        ask("ground", 0, 2);
        ask("ground", 0, 4);
        ask("ground", 1, 1);
        ask("against", 0, 2);
        int[] leans = {-3, 2, 9, 0, -9, 5};
        int[] kins = {0, 0, 1, 20, 0, 0};
        for (int i = 0; i < leans.length; i++) {
            ask("member", leans[i], kins[i]);
        }
        ask("kin", 1, 1);
        ask("draw", 4, BENCH, 77);
        ask("miles", 0, 6, 31);
        ask("miles", 2, 3, 1);
        ask("coaches", 1, 0, 9);
    }

    // ---- what can be told

    private final StringBuilder told = new StringBuilder();

    private void tell(String name, long... a) {
        long answer = ask(name, a);
        told.append(name).append(Arrays.toString(a)).append(" ").append(answer);
        if (answer == (tells(name) ? 0 : -1)) {
            told.append(" with ").append(x.status());
        }
        told.append('\n');
    }

    /** All that this election answers; some of it changes it, so it can be asked once. */
    String all() {
        tellTrays();
        tellPersons();
        tellTexts();
        tellBooks();
        tellPoll();
        tellGrounds();
        tellBench();
        tellTape();
        tellWhatIsKnownLate();
        tellHowMany();
        return told.toString();
    }

    private void tellTrays() {
        for (int p = 0; p < 9; p++) {
            tell("read", 0, p);
            tell("read", 3, p);
        }
        for (int p = 56; p < 61; p++) {
            tell("read", 1, p);
        }
        tell("read", 2, 0);
    }

    private void tellPersons() {
        for (int person = 0; person < PERSONS; person++) {
            for (int what = 0; what < 7; what++) {
                tell("fact", person, 0, 150, what);
            }
        }
    }

    private void tellTexts() {
        tell("fault", 0);
        tell("fault", 1);
        tell("rules", 0, 99);
        tell("rules", 2, 150);
        tell("rules", 0, 150);
        for (int rule = 0; rule < RULES; rule++) {
            tell("struck", 0, 150, rule);
        }
        tell("names", 0, 150);
        for (int person = 0; person < PERSONS; person++) {
            tell("why", person, 0, 150, 600);
            tell("why", person, 2, 150, 600);
            tell("voided", person, 0, 150, 600);
        }
    }

    private void tellBooks() {
        for (int book = 1; book < 3; book++) {
            tell("join", book);
            for (int e = 0; e < ENTRIES; e++) {
                tell("mate", book, e);
            }
        }
        for (int e = 0; e < ENTRIES; e++) {
            tell("joined", e);
            tell("who", e);
            tell("sure", e, 0);
            tell("sure", e, 1);
        }
        for (int book = 0; book < 3; book++) {
            for (int c = 0; c < 4; c++) {
                tell("tally", book, c);
            }
        }
    }

    private void tellPoll() {
        for (int e = 0; e < ENTRIES; e++) {
            tell("standing", e, 0, 150);
        }
        for (int o = 0; o < OFFERS; o++) {
            tell("stands", o, 0, 150);
        }
        for (int c = 0; c < 4; c++) {
            tell("poll", c, 0, 150, c & 1);
        }
        tell("seated", 0, 0, 150, 1);
    }

    private void tellGrounds() {
        for (int g = 0; g <= GROUNDS; g++) {
            for (int c = 0; c < 4; c++) {
                tell("written", c, 1 << g);
            }
        }
        for (int c = 0; c < 4; c++) {
            tell("turns", c, 2);
        }
        for (int a = 0; a < GROUNDS; a++) {
            for (int b = 0; b < a; b++) {
                tell("against", a, b);
            }
        }
    }

    private void tellBench() {
        tell("coachMany");
        for (int k = 0; k <= BENCH; k++) {
            tell("bench", k);
        }
        tell("draw", 6, 6, 1);
        tell("draw", 5, 5, 1);
        tell("draw", 5, 2, 3);
        for (int p = 0; p < 7; p++) {
            tell("coaches", p, 0, 9);
            tell("coachMany");
        }
    }

    private void tellTape() {
        tell("feed", 0, 0, 0, 0, 0);
        tell("text", 20, 9000, 127);
        tell("names", 0, 9000);
    }

    private void tellWhatIsKnownLate() {
        tell("asof", 9999);
        for (int person = 0; person < PERSONS; person++) {
            for (int what : new int[] {0, 1, 2, 3, 6}) {
                tell("fact", person, 0, 150, what);
            }
        }
    }

    private void tellHowMany() {
        tell("split", 0, 0, LAST_KNOWN - 1);
        tell("split", 0, 0, LAST_KNOWN);
        tell("person", 1, 0, 0);
        for (int book = 0; book < 3; book++) {
            tell("entry", book, 1, 0, 0, 1);
        }
        tell("offer", 0, 1, 0);
        tell("ground", 0, 5);
        tell("member", 0, 0);
    }

    /** Twice the same election, the second with calls more: whether all is told of both alike. */
    static String unlike(String plain, String other) {
        String[] a = plain.split("\n");
        String[] b = other.split("\n");
        for (int i = 0; i < a.length && i < b.length; i++) {
            if (!a[i].equals(b[i])) {
                return a[i] + " became " + b[i];
            }
        }
        return a.length == b.length ? "" : "not as much told";
    }
}

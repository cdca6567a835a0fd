/**
 * For every number that a call takes: the least and the most that are taken, the first on each side that is not, the
 * STATUS of that, and that such a refused call leaves all else as it was ('Terms', and part 6).
 */
public final class RangesTest {
    private static final Check CHECK = new Check();
    private static final Trial TRIAL = new Trial(CHECK, Scene::make);
    private static final long LAST_NAME = Check.name("zzzzzzzz");
    private static final long NAME = Check.name("smyth");

    public static void main(String[] args) {
        trays();
        persons();
        records();
        texts();
        comers();
        books();
        poll();
        grounds();
        members();
        coaches();
        CHECK.end();
    }

    // ---- how a range is tried

    private static long[] with(long[] a, int index, long v) {
        long[] b = a.clone();
        b[index] = v;
        return b;
    }

    private static void taken(String name, long... a) {
        TRIAL.taken(name, a);
    }

    private static void refused(int status, String name, long... a) {
        TRIAL.refused(status, name, a);
    }

    /** The number at an index of these arguments goes from least to most; all others have STATUS 1. */
    private static void range(String name, long[] a, int index, long least, long most) {
        range(name, a, index, least, 1, most, 1);
    }

    private static void range(String name, long[] a, int index, long least, int low, long most, int high) {
        taken(name, with(a, index, least));
        taken(name, with(a, index, most));
        refused(low, name, with(a, index, least - 1));
        refused(high, name, with(a, index, most + 1));
    }

    private static long[] of(long... a) {
        return a;
    }

    // ---- promises 3 to 6

    private static void trays() {
        long[] tray = of(0, 1, 5);
        range("tray", tray, 0, 0, 3);
        range("tray", tray, 1, 0, 3);
        range("tray", tray, 2, 0, 60);
        long[] write = of(0, 1, 5);
        range("write", write, 0, 0, 3);
        range("write", write, 1, 0, 3, 6, 3);
        range("write", of(1, 1, 5), 1, 0, 3, 59, 3);
        taken("write", 1, 1, Long.MIN_VALUE);
        taken("write", 1, 1, Long.MAX_VALUE);
        range("read", of(0, 1), 0, 0, 3);
        range("read", of(0, 1), 1, 0, 3, 6, 3);
        range("read", of(1, 1), 1, 0, 3, 59, 3);
        refused(3, "read", 2, 0);
        refused(3, "write", 2, 0, 5);
        pours();
    }

    private static void pours() {
        // seven numbers in TRAY 0, eight in TRAY 3, of one sort
        long[] pour = of(0, 1, 3, 2, 3);
        range("pour", pour, 0, 0, 3);
        range("pour", pour, 1, 0, 1, 4, 3);
        range("pour", pour, 2, 0, 3);
        range("pour", pour, 3, 0, 1, 5, 3);
        range("pour", of(0, 1, 3, 0, 3), 4, 0, 1, 6, 3);
        range("pour", of(3, 0, 0, 2, 3), 4, 0, 1, 5, 3);
        range("pour", of(0, 1, 0, 2, 3), 4, 0, 1, 5, 3);
        // none at all may still stand just behind the last, and no further
        range("pour", of(0, 1, 3, 2, 0), 1, 0, 1, 7, 3);
        range("pour", of(0, 1, 3, 2, 0), 3, 0, 1, 8, 3);
        // an empty TRAY has no number, and room for none
        range("pour", of(2, 0, 2, 0, 0), 4, 0, 1, 0, 3);
        range("pour", of(2, 0, 2, 0, 0), 1, 0, 1, 0, 3);
        refused(8, "pour", 0, 0, 1, 0, 1);
        refused(8, "pour", 1, 0, 2, 0, 0);
    }

    // ---- promises 7 to 13

    private static void persons() {
        range("far", of(NAME, NAME), 0, 1, LAST_NAME);
        range("far", of(NAME, NAME), 1, 1, LAST_NAME);
        long[] person = of(NAME, 5, 3);
        range("person", person, 0, 1, LAST_NAME);
        range("person", person, 1, 0, 19);
        range("person", person, 2, 0, 6);
        range("asof", of(7), 0, 0, 9999);
        long[] fact = of(0, 0, 150, 0);
        range("fact", fact, 0, 0, Scene.PERSONS - 1);
        range("fact", fact, 1, 0, 6);
        range("fact", fact, 2, 0, 9999);
        range("fact", fact, 3, 0, 6);
        long[] letters = {27, 28, 31, 32, 32 * 27 + 1, 32 * 32, 32 * 32 + 1, 1L << 35, 1L << 40, (1L << 40) + 1, -LAST_NAME,
            Long.MIN_VALUE, Long.MIN_VALUE + 1, Long.MAX_VALUE, -1, 1L << 32 | 27};
        for (long name : letters) {
            refused(1, "far", name, 1);
            refused(1, "far", 1, name);
            refused(1, "person", name, 5, 3);
            for (int book = 0; book < 3; book++) {
                refused(1, "entry", book, name, 3, 600, 1);
            }
        }
        for (int letter = 1; letter <= 26; letter++) {
            taken("far", letter, letter * 32L + letter);
        }
    }

    private static void records() {
        long[] hold = of(0, 3, 7, 20, 160, 60);
        range("hold", hold, 0, 0, Scene.PERSONS - 1);
        range("hold", hold, 1, 0, 39);
        range("hold", hold, 2, 1, 1000);
        // to ahead of from
        range("hold", hold, 3, 0, 160);
        range("hold", hold, 4, 20, 9999);
        range("hold", of(0, 3, 7, 0, 9999, 60), 3, 0, 9999);
        range("hold", of(0, 3, 7, 0, 9999, 60), 4, 0, 9999);
        range("hold", hold, 5, Scene.LAST_KNOWN, 5, 9999, 1);
        refused(1, "hold", 0, 3, 7, 20, 160, -1);
        refused(5, "hold", 0, 3, 7, 20, 160, 0);
        long[] split = of(3, 20, 60);
        range("split", split, 0, 0, 39);
        range("split", split, 1, 0, 9999);
        range("split", split, 2, Scene.LAST_KNOWN, 5, 9999, 1);
        refused(1, "split", 3, 20, -1);
        refused(5, "split", 3, 20, 0);
        long[] pay = of(0, 7, 20, 1, 60);
        range("pay", pay, 0, 0, Scene.PERSONS - 1);
        range("pay", pay, 1, 1, 1000);
        range("pay", pay, 2, 0, 9999);
        range("pay", pay, 4, Scene.LAST_KNOWN, 5, 9999, 1);
        refused(1, "pay", 0, 7, 20, 1, -1);
        refused(5, "pay", 0, 7, 20, 0, 0);
    }

    // ---- promises 15 to 22

    private static void texts() {
        long[] text = of(20, 7, 3);
        range("text", text, 0, 0, Scene.TAPED);
        range("text", text, 1, 0, 9999);
        range("text", text, 2, 1, 127);
        for (String name : new String[] {"rules", "names"}) {
            range(name, of(0, 150), 0, 0, 6);
            range(name, of(0, 150), 1, 0, 9999);
        }
        long[] struck = of(0, 150, 0);
        range("struck", struck, 0, 0, 6);
        range("struck", struck, 1, 0, 9999);
        range("struck", struck, 2, 0, Scene.RULES - 1);
        // by its number there then: PLACE 2 has but the three of the first TEXT, and so has PLACE 0 the day ahead
        range("struck", of(2, 150, 0), 2, 0, 2);
        range("struck", of(0, 99, 0), 2, 0, 2);
        range("struck", of(0, 100, 0), 2, 0, Scene.RULES - 1);
    }

    private static void comers() {
        for (String name : new String[] {"right", "why", "voided"}) {
            long[] comer = of(0, 0, 150, 600);
            range(name, comer, 0, 0, Scene.PERSONS - 1);
            range(name, comer, 1, 0, 6);
            range(name, comer, 2, 0, 9999);
            range(name, comer, 3, 0, 1439);
        }
    }

    // ---- promises 23 to 31

    private static void books() {
        for (int book = 0; book < 3; book++) {
            long[] entry = of(book, NAME, 3, 600, 1);
            range("entry", entry, 1, 1, LAST_NAME);
            range("entry", entry, 2, -1, 19);
            range("entry", entry, 3, 0, 1439);
            range("entry", entry, 4, 1, 15);
        }
        range("entry", of(0, NAME, 3, 600, 1), 0, 0, 2);
        range("join", of(1), 0, 1, 2);
        range("mate", of(1, 5), 0, 1, 2);
        range("mate", of(1, 5), 1, 0, Scene.ENTRIES - 1);
        range("joined", of(0), 0, 0, Scene.ENTRIES - 1);
        range("tally", of(0, 0), 0, 0, 3);
        range("tally", of(0, 0), 1, 0, 3);
        range("tally", of(3, 0), 1, 0, 3);
        range("reach", of(5), 0, 0, 30);
        range("who", of(0), 0, 0, Scene.ENTRIES - 1);
        range("sure", of(0, 0), 0, 0, Scene.ENTRIES - 1);
        range("sure", of(0, 0), 1, 0, 1);
        long[] offer = of(0, 1, 600);
        range("offer", offer, 0, 0, Scene.PERSONS - 1);
        range("offer", offer, 1, 1, 15);
        range("offer", offer, 2, 0, 1439);
        refused(6, "mate", 1, 1);
        refused(6, "mate", 2, 0);
        refused(6, "who", 3);
        refused(6, "sure", 3, 0);
        refused(6, "sure", 3, 1);
    }

    // ---- promises 32 to 35

    private static void poll() {
        int[] most = {Scene.ENTRIES - 1, Scene.OFFERS - 1, 3, 1};
        String[] names = {"standing", "stands", "poll", "seated"};
        for (int i = 0; i < names.length; i++) {
            for (int offers = 0; offers < (i < 2 ? 1 : 2); offers++) {
                long[] a = i < 2 ? of(0, 0, 150) : of(0, 0, 150, offers);
                range(names[i], a, 0, 0, most[i]);
                range(names[i], a, 1, 0, 6);
                range(names[i], a, 2, 0, 9999);
            }
        }
    }

    // ---- promises 36 to 39

    private static void grounds() {
        range("ground", of(0, 0), 1, 0, Scene.ENTRIES - 1);
        range("ground", of(1, 0), 1, 0, Scene.OFFERS - 1);
        refused(7, "ground", 0, 1);
        refused(7, "ground", 1, 1);
        range("against", of(0, 1), 0, 0, Scene.GROUNDS - 1);
        range("against", of(1, 0), 1, 0, Scene.GROUNDS - 1);
        for (int g = -1; g <= Scene.GROUNDS; g++) {
            refused(1, "against", g, g);
        }
        refused(7, "against", 0, 2);
        refused(7, "against", 2, 0);
        for (int c = 0; c < 4; c++) {
            range("written", of(c, 5), 1, 0, (1 << Scene.GROUNDS) - 1);
        }
        range("written", of(0, 5), 0, 0, 3);
        // other bits, the lowest that is none of a GROUND and the highest of an int
        refused(1, "written", 0, 1 << Scene.GROUNDS);
        refused(1, "written", 0, 1 << 30 | 1);
        refused(1, "written", 0, Integer.MIN_VALUE);
        refused(1, "written", 0, Integer.MIN_VALUE + 1);
        for (int what = 0; what < 3; what++) {
            range("turns", of(0, what), 0, 0, 3);
        }
        range("turns", of(0, 0), 1, 0, 2);
    }

    // ---- promises 40 to 43

    private static void members() {
        range("member", of(0, 0), 0, -9, 9);
        range("member", of(0, 0), 1, 0, 20);
        range("kin", of(0, 5), 0, 0, 3);
        for (int c = 0; c < 4; c++) {
            range("kin", of(c, 5), 1, 0, 20);
        }
        // five of the six MEMBERS are no KIN
        range("draw", of(3, 0, 7), 0, 1, 1, 5, 6);
        refused(6, "draw", 30, 0, 7);
        refused(1, "draw", 31, 0, 7);
        range("draw", of(3, 2, 7), 1, 0, 3);
        range("draw", of(5, 2, 7), 1, 0, 5);
        taken("draw", 3, 2, 0);
        taken("draw", 3, 2, Integer.MAX_VALUE);
        refused(1, "draw", 3, 2, -1);
        refused(1, "draw", 3, 2, Integer.MIN_VALUE);
        range("bench", of(0), 0, 0, 1, Scene.BENCH - 1, 6);
        refused(1, "bench", Integer.MIN_VALUE);
        refused(6, "bench", Integer.MAX_VALUE);
    }

    // ---- promises 44 and 45

    private static void coaches() {
        long[] miles = of(1, 2, 5);
        range("miles", miles, 0, 0, 6);
        range("miles", miles, 1, 0, 6);
        range("miles", miles, 2, 1, 1000);
        for (int p = 0; p < 7; p++) {
            refused(1, "miles", p, p, 5);
        }
        long[] coaches = of(0, 0, 5);
        range("coaches", coaches, 0, 0, 6);
        range("coaches", coaches, 1, 0, 3);
        range("coaches", coaches, 2, 1, 20);
        refused(3, "coaches", 0, 2, 5);
    }
}

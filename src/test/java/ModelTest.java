import java.lang.reflect.InvocationTargetException;
import java.lang.reflect.Method;
import java.nio.charset.StandardCharsets;
import java.util.Arrays;
import java.util.HashMap;
import java.util.Map;
import java.util.Random;

/** Long runs of calls by chance (from fixed seeds), each answer and STATUS held against the Model. */
public final class ModelTest {
    private static final int RUNS = 720;
    private static final int CALLS = 500;
    private static final Map<String, Method> FACE = new HashMap<>();
    private static final String[] LAND = {"person", "hold", "hold", "hold", "split", "pay", "asof", "fact", "fact", "fact"};
    private static final String[] LAW = {"person", "hold", "split", "pay", "asof", "TEXT", "TEXT", "rules", "struck", "right",
        "right", "right", "why", "why", "voided", "names", "fault", "fact"};
    private static final String[] BOOKS = {"person", "entry", "entry", "entry", "entry", "join", "mate", "mate", "joined",
        "joined", "tally", "reach", "who", "sure", "far"};
    private static final String[] HOUSE = {"person", "entry", "entry", "offer", "TEXT", "hold", "pay", "standing", "standing",
        "stands", "stands", "poll", "seated", "ground", "against", "written", "turns", "turns", "reach", "asof"};
    private static final String[] BENCH = {"member", "member", "kin", "draw", "draw", "bench", "bench", "tray", "write",
        "write", "read", "pour", "miles", "coaches", "coaches", "coachMany", "WAITING"};
    private static final String[][] THEMES = {LAND, LAW, BOOKS, HOUSE, BENCH, null};

    private final Random chance;
    private final PollBooks real = new PollBooks();
    private final Model model = new Model();
    private final StringBuilder told = new StringBuilder();
    private final int odd;
    private final int days;
    private int known;
    private int wrong;
    private int done;

    private ModelTest(int seed) {
        chance = new Random(seed);
        odd = 4 + chance.nextInt(60);
        days = chance.nextInt(3) == 0 ? 9999 : 30;
    }

    public static void main(String[] args) throws ReflectiveOperationException {
        for (Method m : PollBooks.class.getDeclaredMethods()) {
            if (java.lang.reflect.Modifier.isPublic(m.getModifiers())) {
                FACE.put(m.getName(), m);
            }
        }
        int wrong = 0;
        int done = 0;
        for (int seed = 0; seed < RUNS && wrong < 5; seed++) {
            ModelTest run = new ModelTest(seed);
            run.go(THEMES[seed % THEMES.length]);
            wrong += run.wrong;
            done += run.done;
        }
        System.out.println(done + " calls held against the model, " + wrong + " wrong");
        if (wrong != 0) {
            System.exit(1);
        }
    }

    private void go(String[] theme) throws ReflectiveOperationException {
        if (theme == HOUSE && chance.nextBoolean()) {
            fullHouse();
        }
        for (int i = 0; i < CALLS && wrong == 0; i++) {
            String[] from = theme == null ? THEMES[chance.nextInt(THEMES.length - 1)] : theme;
            String name = from[chance.nextInt(from.length)];
            if (name.equals("TEXT")) {
                i += textByFeeds();
            } else if (name.equals("WAITING")) {
                i += waiting();
            } else {
                call(name, arguments(name));
            }
        }
    }

    /** A poll where most stand well, so that seats hang on single votes. */
    private void fullHouse() throws ReflectiveOperationException {
        int many = 4 + chance.nextInt(8);
        for (int i = 0; i < many; i++) {
            call("person", 1 + i * 2, chance.nextInt(3), chance.nextInt(7));
            call("entry", 0, 1 + i * 2, -1, minute(), 1 + chance.nextInt(15));
            call("entry", 1 + chance.nextInt(2), 1 + i * 2, -1, 640, 1 + chance.nextInt(15));
            call("offer", chance.nextInt(i + 1), 1 + chance.nextInt(15), minute());
        }
        for (int i = 0; i < many; i++) {
            call("ground", chance.nextInt(2), chance.nextInt(many));
            call("against", chance.nextInt(many), chance.nextInt(many));
        }
        int length = 0;
        for (String bit : new String[] {"all: may minute < 99", "9; four: names 3;   "}) {
            byte[] bytes = bit.getBytes(StandardCharsets.ISO_8859_1);
            int[] f = Check.five(bytes, 0);
            call("feed", f[0], f[1], f[2], f[3], f[4]);
            length += bytes.length;
        }
        call("text", length, 0, 127);
        for (int c = 0; c < 4; c++) {
            for (int what = 0; what < 3; what++) {
                call("turns", c, what);
            }
            call("poll", c, 0, 9, 1);
            call("seated", c & 1, 0, 9, c >> 1);
        }
    }

    private long call(String name, long... a) throws ReflectiveOperationException {
        Method m = FACE.get(name);
        Object[] boxed = new Object[a.length];
        for (int i = 0; i < a.length; i++) {
            Class<?> type = m.getParameterTypes()[i];
            boxed[i] = type == long.class ? (Object) a[i] : type == boolean.class ? (Object) (a[i] != 0) : (Object) (int) a[i];
        }
        told.append(name).append(Arrays.toString(a)).append('\n');
        long got;
        try {
            Object answer = m.invoke(real, boxed);
            got = answer instanceof Boolean b ? b ? 1 : 0 : ((Number) answer).longValue();
        } catch (InvocationTargetException e) {
            wrong++;
            System.out.println(told + "threw " + e.getCause());
            e.getCause().printStackTrace(System.out);
            return 0;
        }
        long want = model.call(name, a);
        done++;
        if (got != want || real.status() != model.status()) {
            wrong++;
            System.out.println(told + "answered " + got + " with " + real.status() + ", due is " + want + " with "
                + model.status());
        }
        return got;
    }

    /** From 0 to most - 1 as a rule, now and then just out of it or far out. */
    private int upTo(int most) {
        if (chance.nextInt(odd * 3) == 0) {
            int[] wild = {-1, most, -2, most + 1, Integer.MIN_VALUE, Integer.MAX_VALUE, 1 << 16, 31, 32, 64};
            return wild[chance.nextInt(wild.length)];
        }
        return chance.nextInt(Math.max(1, most));
    }

    private int some(int most) {
        return upTo(chance.nextBoolean() ? Math.min(most, 4) : most);
    }

    private int day() {
        return chance.nextInt(20) == 0 ? upTo(10000) : upTo(days);
    }

    private int minute() {
        return chance.nextInt(3) == 0 ? upTo(1440) : 600 + chance.nextInt(90);
    }

    private long name() {
        if (chance.nextInt(odd * 2) == 0) {
            long[] wild = {0, -1, 27, 32, 1L << 40, Long.MIN_VALUE, Long.MAX_VALUE, 1023, 26L << 35, (1L << 40) - 1};
            return wild[chance.nextInt(wild.length)];
        }
        int letters = chance.nextInt(10) == 0 ? 8 : 1 + chance.nextInt(5);
        int kinds = chance.nextInt(8) == 0 ? 26 : 3;
        long v = 0;
        for (int i = 0; i < letters; i++) {
            v = v * 32 + 1 + chance.nextInt(kinds);
        }
        return v;
    }

    private int known() {
        if (chance.nextInt(3) == 0) {
            known = Math.min(9999, known + chance.nextInt(days / 10 + 1));
        }
        return chance.nextInt(odd) == 0 ? day() : known;
    }

    private long[] arguments(String name) {
        switch (name) {
            case "tray": return new long[] {upTo(4), chance.nextBoolean() ? 2 : upTo(4), chance.nextBoolean() ? 7 : upTo(61)};
            case "write": return new long[] {upTo(4), some(60), chance.nextBoolean() ? chance.nextLong() : upTo(101)};
            case "read": return new long[] {upTo(4), some(60)};
            case "pour": return new long[] {upTo(4), upTo(6), upTo(4), upTo(6), upTo(5)};
            case "far": return new long[] {name(), name()};
            case "person": return new long[] {name(), some(20), upTo(7)};
            case "hold": return new long[] {some(40), some(40), 1 + upTo(1000), day() / 2, day(), known()};
            case "split": return new long[] {some(40), day(), known()};
            case "pay": return new long[] {some(40), 1 + upTo(1000), day(), chance.nextInt(2), known()};
            case "asof": return new long[] {chance.nextBoolean() ? 9999 : day()};
            case "fact": return new long[] {some(40), upTo(7), day(), upTo(7)};
            case "fault": return new long[] {upTo(3)};
            case "rules": case "names": return new long[] {upTo(7), day()};
            case "struck": return new long[] {upTo(7), day(), some(40)};
            case "right": case "why": case "voided": return new long[] {some(40), upTo(7), day(), minute()};
            case "entry": return new long[] {upTo(3), name(), chance.nextInt(4) == 0 ? -1 : some(20), minute(), 1 + some(15)};
            case "join": return new long[] {1 + upTo(2)};
            case "mate": return new long[] {1 + upTo(2), some(30)};
            case "joined": case "who": return new long[] {some(30)};
            case "tally": return new long[] {upTo(4), upTo(4)};
            case "reach": return new long[] {upTo(31)};
            case "sure": return new long[] {some(30), upTo(2)};
            case "offer": return new long[] {some(40), 1 + some(15), minute()};
            case "standing": return new long[] {some(30), upTo(7), day()};
            case "stands": return new long[] {some(20), upTo(7), day()};
            case "poll": return new long[] {upTo(4), upTo(7), day(), chance.nextInt(2)};
            case "seated": return new long[] {upTo(2), upTo(7), day(), chance.nextInt(2)};
            case "ground": return new long[] {chance.nextInt(2), some(20)};
            case "against": return new long[] {some(10), some(10)};
            case "written": return new long[] {upTo(4), upTo(chance.nextBoolean() ? 8 : 1024)};
            case "turns": return new long[] {upTo(4), upTo(3)};
            case "member": return new long[] {upTo(19) - 9, chance.nextBoolean() ? 0 : some(21)};
            case "kin": return new long[] {upTo(4), some(21)};
            case "draw": return new long[] {1 + some(30), some(12), chance.nextInt(odd) == 0 ? -1 : chance.nextInt() >>> 1};
            case "bench": return new long[] {some(12)};
            case "miles": return new long[] {upTo(7), upTo(7), 1 + upTo(chance.nextBoolean() ? 1000 : 30)};
            case "coaches": return new long[] {upTo(7), upTo(4), 1 + upTo(20)};
            default: return new long[0];
        }
    }

    private int waiting() throws ReflectiveOperationException {
        int tray = chance.nextInt(4);
        call("tray", tray, chance.nextInt(4), 7 + chance.nextInt(3));
        int most = chance.nextBoolean() ? 100 : 9;
        for (int p = 0; p < 7; p++) {
            call("write", tray, p, chance.nextInt(3) == 0 ? 0 : chance.nextInt(odd * 9) == 0 ? 101 : chance.nextInt(most + 1));
        }
        call("coaches", chance.nextInt(7), tray, 1 + chance.nextInt(20));
        call("coachMany");
        return 10;
    }

    // ---- texts

    private int textByFeeds() throws ReflectiveOperationException {
        StringBuilder b = new StringBuilder();
        int rules = chance.nextInt(30) == 0 ? 22 : 1 + chance.nextInt(6);
        int most = chance.nextInt(10) == 0 ? 640 : 100 + chance.nextInt(300);
        for (int i = 0; i < rules && b.length() < most; i++) {
            rule(b, rules > 20 ? i : -1);
        }
        if (chance.nextInt(4) == 0) {
            spoil(b);
        }
        byte[] bytes = b.toString().getBytes(StandardCharsets.ISO_8859_1);
        int calls = 0;
        for (int i = 0; i < bytes.length; i += 20, calls++) {
            int[] f = Check.five(bytes, i);
            call("feed", f[0], f[1], f[2], f[3], f[4]);
        }
        int length = chance.nextInt(odd) == 0 ? upTo(620) : bytes.length;
        int places = chance.nextInt(odd) == 0 ? upTo(129) : chance.nextBoolean() ? 127 : 1 + chance.nextInt(127);
        call("text", length, chance.nextBoolean() ? 0 : day(), places);
        call("fault", 0);
        call("fault", 1);
        return calls + 3;
    }

    private void spoil(StringBuilder b) {
        int times = 1 + chance.nextInt(2);
        for (int i = 0; i < times && b.length() > 0; i++) {
            int place = chance.nextInt(b.length());
            String[] bits = {";", ":", "(", ")", "+", " not ", " may ", "1", "123456", "A", "\t", ",", "\377", "\0", " land ", " x ",
                "abcdefghi", "<", " unless ", " strikes ", "-", "*", " to ", " and ", "\n", "((((((("};
            if (chance.nextInt(3) == 0) {
                b.deleteCharAt(place);
            } else if (chance.nextInt(4) == 0) {
                b.setLength(place);
            } else {
                b.insert(place, bits[chance.nextInt(bits.length)]);
            }
        }
    }

    private String gap() {
        int k = chance.nextInt(12);
        return k == 0 ? "  " : k == 1 ? "\n" : " ";
    }

    private String label() {
        String[] labels = {"a", "b", "c", "d", "all", "maybe", "bars", "tor", "abcdefgh", "z", "voids", "hour", "ands", "nots",
            "lands", "y", "w", "vv", "mayor", "q"};
        return chance.nextInt(odd * 4) == 0 ? "abcdefghi" : labels[chance.nextInt(labels.length)];
    }

    private void rule(StringBuilder b, int number) {
        b.append(number >= 0 ? "r" + (char) ('a' + number) : label());
        if (chance.nextInt(3) == 0) {
            b.append(gap()).append("strikes").append(gap()).append(label());
        }
        b.append(chance.nextBoolean() ? ":" : " : ");
        int kind = chance.nextInt(8);
        if (number >= 0 && chance.nextInt(3) > 0) {
            b.append("names 1");
        } else if (kind == 0) {
            b.append("names").append(gap()).append(chance.nextInt(odd) == 0 ? upTo(7) & 63 : 1 + chance.nextInt(4));
        } else if (kind == 1) {
            int first = chance.nextInt(odd) == 0 ? 1440 : chance.nextInt(700);
            int second = chance.nextInt(odd) == 0 ? chance.nextInt(2000) : first + chance.nextInt(740);
            b.append("hours").append(gap()).append(first).append(gap()).append("to").append(gap()).append(second);
        } else {
            b.append(kind < 5 ? "may" : kind < 7 ? "bar" : "void").append(gap());
            test(b);
            if (chance.nextInt(3) == 0) {
                b.append(gap()).append("unless").append(gap());
                test(b);
            }
        }
        b.append(";").append(chance.nextBoolean() ? "" : gap());
    }

    private void test(StringBuilder b) {
        int many = 1 + chance.nextInt(chance.nextInt(4) == 0 ? 4 : 2);
        for (int i = 0; i < many; i++) {
            if (i > 0) {
                b.append(gap()).append(chance.nextBoolean() ? "and" : "or").append(gap());
            }
            b.append(chance.nextInt(4) == 0 ? "not " : "");
            sum(b, 0);
            b.append(chance.nextBoolean() ? gap() : "").append("<>=".charAt(chance.nextInt(3))).append(gap());
            sum(b, 0);
        }
    }

    private void sum(StringBuilder b, int depth) {
        int many = chance.nextInt(3) == 0 ? 1 + chance.nextInt(4) : 1;
        for (int i = 0; i < many; i++) {
            if (i > 0) {
                b.append("+-*".charAt(chance.nextInt(3)));
            }
            String[] variables = {"land", "plots", "held", "split", "trade", "home", "paid", "minute", "day"};
            int kind = chance.nextInt(10);
            if (kind == 0 || depth > 0 && depth < 7 && chance.nextInt(3) == 0) {
                b.append("(");
                sum(b, depth + 1);
                b.append(")");
            } else if (kind < 5) {
                b.append(variables[chance.nextInt(variables.length)]);
            } else {
                b.append(chance.nextInt(5) == 0 ? chance.nextInt(100000) : chance.nextInt(20));
            }
        }
    }
}

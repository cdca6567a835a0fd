import java.lang.reflect.InvocationTargetException;
import java.lang.reflect.Method;
import java.lang.reflect.Modifier;
import java.util.Arrays;

/** Every call with all mixtures of extreme arguments, on an empty object and on a full one: no call throws, all agree with the Model. */
public final class EdgesTest {
    private static final long[] EXTREMES = {Integer.MIN_VALUE, -1, 0, 1, 3, 30, Integer.MAX_VALUE};
    private static final int MOST_MIXTURES = 20000;
    private static int done;
    private static int wrong;

    private PollBooks real = new PollBooks();
    private Model model = new Model();

    public static void main(String[] args) throws ReflectiveOperationException {
        for (Method m : PollBooks.class.getDeclaredMethods()) {
            if (Modifier.isPublic(m.getModifiers()) && !m.getName().equals("status")) {
                new EdgesTest().mixtures(m);
                EdgesTest full = new EdgesTest();
                full.fill();
                full.mixtures(m);
            }
        }
        System.out.println(done + " calls with extreme arguments, " + wrong + " wrong");
        if (wrong != 0) {
            System.exit(1);
        }
    }

    private void mixtures(Method m) throws ReflectiveOperationException {
        int many = m.getParameterCount();
        int all = (int) Math.min(MOST_MIXTURES, Math.round(Math.pow(EXTREMES.length, many)));
        for (int i = 0; i < all; i++) {
            // steps coprime to the count reach far apart mixtures where not all are tried
            long mixture = (long) i * 104729 % Math.round(Math.pow(EXTREMES.length, many));
            long[] a = new long[many];
            for (int k = 0; k < many; k++) {
                boolean decides = m.getParameterTypes()[k] == boolean.class;
                a[k] = decides ? mixture % 2 : EXTREMES[(int) (mixture % EXTREMES.length)];
                mixture /= EXTREMES.length;
            }
            call(m, a);
        }
    }

    private void call(Method m, long... a) throws ReflectiveOperationException {
        Object[] boxed = new Object[a.length];
        for (int i = 0; i < a.length; i++) {
            Class<?> type = m.getParameterTypes()[i];
            boxed[i] = type == long.class ? (Object) a[i] : type == boolean.class ? (Object) (a[i] != 0) : (Object) (int) a[i];
        }
        done++;
        try {
            Object answer = m.invoke(real, boxed);
            long got = answer instanceof Boolean b ? b ? 1 : 0 : ((Number) answer).longValue();
            long want = model.call(m.getName(), a);
            if (got != want || real.status() != model.status()) {
                told(m, a, "answered " + got + " with " + real.status() + ", due is " + want + " with " + model.status());
            }
        } catch (InvocationTargetException e) {
            told(m, a, "threw " + e.getCause());
        }
    }

    private static void told(Method m, long[] a, String what) {
        wrong++;
        if (wrong < 20) {
            System.out.println(m.getName() + Arrays.toString(a) + " " + what);
        }
    }

    private void fill() throws ReflectiveOperationException {
        for (int i = 0; i < 4; i++) {
            named("tray", i, i, i == 3 ? 60 : 7);
        }
        for (int i = 0; i < 40; i++) {
            named("person", 1 + i % 26, i % 20, i % 7);
        }
        for (int i = 0; i < 80; i++) {
            named("hold", i % 40, i % 40, 1 + i, i, 9999 - i, 0);
        }
        for (int i = 0; i < 60; i++) {
            named("pay", i % 40, 1 + i, i, i % 2, 0);
            named("split", i % 40, i, 0);
        }
        for (int i = 0; i < 90; i++) {
            named("entry", i % 3, 1 + i % 26, i % 21 - 1, i, 1 + i % 15);
        }
        for (int i = 0; i < 20; i++) {
            named("offer", i, 1 + i % 15, i);
        }
        for (int i = 0; i < 10; i++) {
            named("ground", i % 2, i);
            named("against", i, i / 2);
        }
        for (int i = 0; i < 30; i++) {
            named("member", i % 19 - 9, i % 21);
        }
        String text = "a strikes b: may day > 0 - 1 unless minute = 3; b: bar trade = 2; c: void paid > 9; d: hours 0 to 30; ";
        for (int k = 0; k < 5; k++) {
            byte[] bytes = text.getBytes(java.nio.charset.StandardCharsets.ISO_8859_1);
            for (int i = 0; i < bytes.length; i += 20) {
                int[] f = Check.five(bytes, i);
                named("feed", f[0], f[1], f[2], f[3], f[4]);
            }
            named("text", bytes.length, k, 127);
        }
    }

    private void named(String name, long... a) throws ReflectiveOperationException {
        for (Method m : PollBooks.class.getDeclaredMethods()) {
            if (m.getName().equals(name)) {
                call(m, a);
            }
        }
    }
}

import java.util.Arrays;
import java.util.function.Supplier;

/** Calls on elections made alike: each on one of its own, and behind a refused one all must be told as without it. */
final class Trial {
    private final Check check;
    private final Supplier<Scene> maker;
    private final String plain;

    Trial(Check check, Supplier<Scene> maker) {
        this.check = check;
        this.maker = maker;
        this.plain = maker.get().all();
    }

    private static String told(String name, long... a) {
        return name + Arrays.toString(a);
    }

    /** With STATUS 1 ahead of it, so that one that stays as it was is seen. */
    Scene taken(String name, long... a) {
        Scene s = maker.get();
        s.ask("rules", -1, 0);
        long answer = s.ask(name, a);
        check.due("status() behind " + told(name, a), s.status(), 0);
        check.due(told(name, a) + " tells true", !Scene.tells(name) || answer == 1, true);
        return s;
    }

    /** With an answer, too. */
    Scene answers(long want, String name, long... a) {
        Scene s = maker.get();
        s.ask("rules", -1, 0);
        check.due(told(name, a), s.ask(name, a), want);
        check.due("status() behind " + told(name, a), s.status(), 0);
        return s;
    }

    void refused(int status, String name, long... a) {
        Scene s = maker.get();
        s.ask("rules", 0, 0);
        check.due(told(name, a), s.ask(name, a), Scene.tells(name) ? 0 : -1);
        check.due("status() behind " + told(name, a), s.status(), status);
        String unlike = Scene.unlike(plain, s.all());
        check.due(told(name, a) + " changes nothing: " + unlike, unlike.isEmpty(), true);
    }
}

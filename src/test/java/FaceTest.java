import java.io.IOException;
import java.lang.reflect.Constructor;
import java.lang.reflect.Field;
import java.lang.reflect.Member;
import java.lang.reflect.Method;
import java.lang.reflect.Modifier;
import java.nio.file.Files;
import java.nio.file.Path;
import java.util.Set;
import java.util.TreeSet;
import java.util.regex.Matcher;
import java.util.regex.Pattern;

/** The public face is the document's and no more: rule 1 of LANGUAGE.md. */
public final class FaceTest {
    private static final String[] FACE = {
        "int status()", "boolean tray(int,int,int)", "boolean write(int,int,long)", "long read(int,int)",
        "boolean pour(int,int,int,int,int)", "int far(long,long)", "int person(long,int,int)",
        "boolean hold(int,int,int,int,int,int)", "boolean split(int,int,int)", "boolean pay(int,int,int,boolean,int)",
        "boolean asof(int)", "int fact(int,int,int,int)", "int feed(int,int,int,int,int)", "int text(int,int,int)",
        "int fault(int)", "int rules(int,int)", "int struck(int,int,int)", "int right(int,int,int,int)",
        "int why(int,int,int,int)", "int voided(int,int,int,int)", "int names(int,int)", "int entry(int,long,int,int,int)",
        "int join(int)", "int mate(int,int)", "int joined(int)", "int tally(int,int)", "boolean reach(int)", "int who(int)",
        "int sure(int,int)", "int offer(int,int,int)", "int standing(int,int,int)", "int stands(int,int,int)",
        "int poll(int,int,int,boolean)", "int seated(int,int,int,boolean)", "int ground(boolean,int)",
        "boolean against(int,int)", "int written(int,int)", "int turns(int,int)", "int member(int,int)",
        "boolean kin(int,int)", "int draw(int,int,int)", "int bench(int)", "boolean miles(int,int,int)",
        "int coaches(int,int,int)", "int coachMany()"};
    private static final Check CHECK = new Check();

    public static void main(String[] args) throws IOException {
        face();
        namesOfTheFaceAreItsOwn();
        groups();
        CHECK.end();
    }

    private static void holds(String what, boolean holds) {
        CHECK.due(what, holds, true);
    }

    private static boolean isPublic(Member m) {
        return Modifier.isPublic(m.getModifiers());
    }

    private static boolean isPrivate(Member m) {
        return Modifier.isPrivate(m.getModifiers());
    }

    private static String told(Method m) {
        StringBuilder b = new StringBuilder(m.getReturnType() + " " + m.getName() + "(");
        for (Class<?> type : m.getParameterTypes()) {
            b.append(b.charAt(b.length() - 1) == '(' ? "" : ",").append(type);
        }
        return b.append(")").toString();
    }

    private static void face() {
        Set<String> there = new TreeSet<>();
        for (Method m : PollBooks.class.getDeclaredMethods()) {
            holds(m + " is public or private", isPublic(m) || isPrivate(m));
            if (isPublic(m)) {
                there.add(told(m));
                holds(m + " is of an object", !Modifier.isStatic(m.getModifiers()));
            }
        }
        for (String method : FACE) {
            holds(method + " is there", there.remove(method));
        }
        CHECK.due("no other public method: " + there, there.size(), 0);
        int modifiers = PollBooks.class.getModifiers();
        holds("public and final", Modifier.isPublic(modifiers) && Modifier.isFinal(modifiers));
        Constructor<?>[] makers = PollBooks.class.getDeclaredConstructors();
        holds("one public constructor", makers.length == 1 && isPublic(makers[0]) && makers[0].getParameterCount() == 0);
        for (Field f : PollBooks.class.getDeclaredFields()) {
            holds(f + " is private, or NONE", isPrivate(f) || f.getName().equals("NONE") && isPublic(f));
        }
        CHECK.due("NONE", PollBooks.NONE, -1);
    }

    private static void namesOfTheFaceAreItsOwn() {
        Set<String> names = new TreeSet<>();
        for (Method m : PollBooks.class.getDeclaredMethods()) {
            if (isPublic(m)) {
                names.add(m.getName());
            }
        }
        for (Method m : PollBooks.class.getDeclaredMethods()) {
            holds(m + " has a name of its own", isPublic(m) || !names.contains(m.getName()));
        }
        for (Class<?> c : PollBooks.class.getDeclaredClasses()) {
            for (Method m : c.getDeclaredMethods()) {
                holds(m + " has a name of its own", !names.contains(m.getName()));
            }
        }
    }

    /** "Ahead of the calls .. the interface says: ---- ..": in the file, too, and the calls behind it in that order. */
    private static void groups() throws IOException {
        String source = Files.readString(Path.of("src/main/java/PollBooks.java"));
        Matcher m = Pattern.compile("Ahead of the calls (.*) the interface says: (---- .*)\\.\n")
            .matcher(Files.readString(Path.of("../shared/DOC.md")));
        int at = 0;
        int many = 0;
        while (m.find()) {
            int group = source.indexOf("    // " + m.group(2) + "\n", at);
            holds(m.group(2) + " is told", group > at);
            at = group;
            for (String name : m.group(1).replace("`", "").split(", ")) {
                Matcher call = Pattern.compile("\n    public \\w+ " + name + "\\(").matcher(source);
                boolean found = call.find(Math.max(0, at));
                holds(name + " stands in its order", found);
                at = found ? call.start() : at;
                many++;
            }
        }
        CHECK.due("calls in groups", many, FACE.length - 1);
    }
}

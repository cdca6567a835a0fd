import com.sun.source.tree.ClassTree;
import com.sun.source.tree.MethodInvocationTree;
import com.sun.source.tree.NewClassTree;
import com.sun.source.tree.Tree;
import com.sun.source.util.TreePath;
import java.util.ArrayList;
import java.util.HashMap;
import java.util.LinkedHashSet;
import java.util.List;
import java.util.Map;
import java.util.Set;
import java.util.TreeSet;
import javax.lang.model.element.Element;
import javax.lang.model.element.ElementKind;
import javax.lang.model.element.Modifier;

/** Which method of a source calls which, those of the library too. */
final class Calls {
    private final Map<Element, Set<Element>> called = new HashMap<>();

    Calls(Source source) {
        List<TreePath> calls = source.all(MethodInvocationTree.class);
        calls.addAll(source.all(NewClassTree.class));
        for (TreePath p : calls) {
            TreePath method = Source.methodAround(p);
            if (method != null) {
                add(source.element(method), source.element(p));
            } else {
                // what gives a field its first value is called by each constructor
                ClassTree around = (ClassTree) Source.classAround(p).getLeaf();
                for (Tree member : around.getMembers()) {
                    Element e = source.element(new TreePath(Source.classAround(p), member));
                    if (e != null && e.getKind() == ElementKind.CONSTRUCTOR) {
                        add(e, source.element(p));
                    }
                }
            }
        }
    }

    private void add(Element from, Element to) {
        called.computeIfAbsent(from, e -> new LinkedHashSet<>()).add(to);
    }

    private boolean reaches(Element from, Element to, Set<Element> seen) {
        for (Element next : called.getOrDefault(from, Set.of())) {
            if (next == to || seen.add(next) && reaches(next, to, seen)) {
                return true;
            }
        }
        return false;
    }

    /** The names of those from which calls come back to themselves. */
    Set<String> recursive() {
        Set<String> found = new TreeSet<>();
        for (Element e : called.keySet()) {
            if (reaches(e, e, new LinkedHashSet<>())) {
                found.add(e.getSimpleName().toString());
            }
        }
        return found;
    }

    /** The longest way of calls from the public face, none twice in it. */
    List<String> deepest() {
        List<Element> deepest = List.of();
        for (Element e : called.keySet()) {
            if (e.getModifiers().contains(Modifier.PUBLIC)) {
                List<Element> way = deepest(e, new ArrayList<>());
                deepest = way.size() > deepest.size() ? way : deepest;
            }
        }
        List<String> names = new ArrayList<>();
        for (Element e : deepest) {
            names.add(e.getEnclosingElement().getSimpleName() + "." + e.getSimpleName());
        }
        return names;
    }

    private List<Element> deepest(Element from, List<Element> above) {
        List<Element> here = new ArrayList<>(above);
        here.add(from);
        List<Element> best = here;
        for (Element next : called.getOrDefault(from, Set.of())) {
            if (!here.contains(next)) {
                List<Element> way = deepest(next, here);
                best = way.size() > best.size() ? way : best;
            }
        }
        return best;
    }
}

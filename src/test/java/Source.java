import com.sun.source.tree.BlockTree;
import com.sun.source.tree.ClassTree;
import com.sun.source.tree.CompilationUnitTree;
import com.sun.source.tree.MethodTree;
import com.sun.source.tree.Tree;
import com.sun.source.tree.VariableTree;
import com.sun.source.util.JavacTask;
import com.sun.source.util.TreePath;
import com.sun.source.util.TreePathScanner;
import com.sun.source.util.Trees;
import java.io.IOException;
import java.nio.file.Path;
import java.util.ArrayList;
import java.util.List;
import javax.lang.model.element.Element;
import javax.lang.model.type.TypeMirror;
import javax.lang.model.util.Elements;
import javax.tools.JavaCompiler;
import javax.tools.StandardJavaFileManager;
import javax.tools.ToolProvider;

/** A source file as javac reads it: all its trees, and what the names in them mean. */
final class Source {
    final CompilationUnitTree unit;
    private final Trees trees;
    private final Elements elements;
    private final List<TreePath> paths = new ArrayList<>();

    Source(Path file) throws IOException {
        JavaCompiler compiler = ToolProvider.getSystemJavaCompiler();
        try (StandardJavaFileManager files = compiler.getStandardFileManager(null, null, null)) {
            JavacTask task = (JavacTask) compiler.getTask(null, files, null, List.of("-proc:none"), null,
                files.getJavaFileObjects(file));
            unit = task.parse().iterator().next();
            task.analyze();
            trees = Trees.instance(task);
            elements = task.getElements();
        }
        new TreePathScanner<Void, Void>() {
            @Override
            public Void scan(Tree tree, Void nothing) {
                if (tree != null) {
                    paths.add(getCurrentPath() == null ? new TreePath((CompilationUnitTree) tree)
                        : new TreePath(getCurrentPath(), tree));
                }
                return super.scan(tree, nothing);
            }
        }.scan(unit, null);
    }

    /** The paths to all trees of a kind that the file itself has. */
    List<TreePath> all(Class<? extends Tree> kind) {
        List<TreePath> found = new ArrayList<>();
        for (TreePath p : paths) {
            if (kind.isInstance(p.getLeaf()) && !isMadeByTheCompiler(p)) {
                found.add(p);
            }
        }
        return found;
    }

    /** All of a kind inside a tree, itself too. */
    List<TreePath> inside(Tree outer, Class<? extends Tree> kind) {
        List<TreePath> found = new ArrayList<>();
        for (TreePath p : all(kind)) {
            for (TreePath up = p; up != null; up = up.getParentPath()) {
                if (up.getLeaf() == outer) {
                    found.add(p);
                }
            }
        }
        return found;
    }

    private boolean isMadeByTheCompiler(TreePath p) {
        for (TreePath up = p; up != null; up = up.getParentPath()) {
            if (up.getLeaf() instanceof MethodTree
                && elements.getOrigin(trees.getElement(up)) != Elements.Origin.EXPLICIT) {
                return true;
            }
        }
        return false;
    }

    Element element(TreePath p) {
        return trees.getElement(p);
    }

    TypeMirror type(TreePath p) {
        return trees.getTypeMirror(p);
    }

    TypeMirror type(TreePath parent, Tree leaf) {
        return trees.getTypeMirror(new TreePath(parent, leaf));
    }

    Tree tree(Element e) {
        return trees.getTree(e);
    }

    TreePath path(Element e) {
        return trees.getPath(e);
    }

    /** The nearest one around a tree of one of some kinds; null without one. */
    static TreePath around(TreePath p, List<Class<? extends Tree>> kinds) {
        for (TreePath up = p.getParentPath(); up != null; up = up.getParentPath()) {
            for (Class<? extends Tree> kind : kinds) {
                if (kind.isInstance(up.getLeaf())) {
                    return up;
                }
            }
        }
        return null;
    }

    static TreePath methodAround(TreePath p) {
        return around(p, List.of(MethodTree.class));
    }

    /** Whether it stands where a field gets its first value, or in a constructor. */
    boolean isOfMaking(TreePath p) {
        TreePath method = methodAround(p);
        if (method != null) {
            return ((MethodTree) method.getLeaf()).getReturnType() == null;
        }
        return around(p, List.of(VariableTree.class)) != null && around(p, List.of(BlockTree.class)) == null;
    }

    static TreePath classAround(TreePath p) {
        return around(p, List.of(ClassTree.class));
    }

    private long line(long position) {
        return unit.getLineMap().getLineNumber(position);
    }

    int lines(Tree tree) {
        long first = line(trees.getSourcePositions().getStartPosition(unit, tree));
        return (int) (line(trees.getSourcePositions().getEndPosition(unit, tree)) - first + 1);
    }

    /** Where it stands, and its first line. */
    String told(TreePath p) {
        long start = trees.getSourcePositions().getStartPosition(unit, p.getLeaf());
        return "line " + line(start) + " (" + p.getLeaf().toString().strip().lines().findFirst().orElse("") + ")";
    }
}

import com.sun.source.tree.*;
import com.sun.source.util.TreePath;
import java.io.IOException;
import java.nio.file.Files;
import java.nio.file.Path;
import java.util.ArrayList;
import java.util.HashSet;
import java.util.List;
import java.util.Map;
import java.util.Set;
import javax.lang.model.element.Element;
import javax.lang.model.element.ElementKind;
import javax.lang.model.element.ExecutableElement;
import javax.lang.model.element.Modifier;
import javax.lang.model.element.TypeElement;
import javax.lang.model.element.VariableElement;
import javax.lang.model.type.ArrayType;
import javax.lang.model.type.DeclaredType;
import javax.lang.model.type.TypeKind;
import javax.lang.model.type.TypeMirror;

/** The program against ../shared/LANGUAGE.md, rule by rule, as javac reads it; rule 1 is FaceTest's, rule 7 EdgesTest's, too. */
public final class LanguageTest {
    private static final Path FILE = Path.of("src/main/java/PollBooks.java");
    private static final Check CHECK = new Check();
    /** Rule 4; of Integer, Long and Math all but those whose name ends in Exact. */
    private static final Map<String, Set<String>> LIBRARY = Map.of(
        "java.lang.String", Set.of("length", "charAt", "isEmpty", "equals", "indexOf", "substring", "toCharArray"),
        "java.lang.StringBuilder", Set.of("append", "charAt", "setCharAt", "setLength", "deleteCharAt", "reverse", "length",
            "toString"),
        "java.util.ArrayList", Set.of("add", "get", "set", "remove", "size", "isEmpty", "clear"),
        "java.util.List", Set.of("add", "get", "set", "remove", "size", "isEmpty", "clear", "of"),
        "java.lang.System", Set.of("arraycopy"),
        "java.util.Arrays", Set.of("copyOf", "copyOfRange", "fill"));
    private static final Set<String> NUMBER_CLASSES = Set.of("java.lang.Integer", "java.lang.Long", "java.lang.Math");
    private static final Set<String> OTHER_TYPES = Set.of("java.lang.String", "java.lang.StringBuilder", "java.lang.Integer",
        "java.util.List", "java.util.ArrayList");
    private static final List<Class<? extends Tree>> LOOPS = List.of(ForLoopTree.class, EnhancedForLoopTree.class,
        WhileLoopTree.class, DoWhileLoopTree.class);
    private static Source source;

    public static void main(String[] args) throws IOException {
        source = new Source(FILE);
        rule2ClassesInside();
        rule3Types();
        rule4Library();
        rule4Signs();
        rule5StaticFields();
        rule6NothingThrown();
        rule6NothingOfObjects();
        rule7Divisors();
        rule7References();
        rule7Lengths();
        rule8And11Calls();
        rule9Loops();
        rule10Texts();
        rule11Sizes();
        rule12Made();
        CHECK.end();
    }

    private static void holds(String what, boolean holds) {
        CHECK.due(what, holds, true);
    }

    private static void none(int rule, Class<? extends Tree> kind) {
        for (TreePath p : source.all(kind)) {
            holds("rule " + rule + ": no " + kind.getSimpleName() + " in " + source.told(p), false);
        }
        CHECK.due("rule " + rule + ": " + kind.getSimpleName(), source.all(kind).size(), 0);
    }

    private static boolean isOurs(Element e) {
        for (Element up = e; up != null; up = up.getEnclosingElement()) {
            if (up instanceof TypeElement && up.getSimpleName().contentEquals("PollBooks")) {
                return true;
            }
        }
        return false;
    }

    // ---- rules 2 and 3

    private static void rule2ClassesInside() {
        none(2, LambdaExpressionTree.class);
        none(2, MemberReferenceTree.class);
        for (TreePath p : source.all(ClassTree.class)) {
            Tree around = p.getParentPath().getLeaf();
            Set<Modifier> told = source.element(p).getModifiers();
            if (around != source.unit) {
                holds("inside PollBooks: " + source.told(p), around == source.unit.getTypeDecls().get(0));
                holds("static: " + source.told(p), told.contains(Modifier.STATIC));
                holds("not for others: " + source.told(p), !told.contains(Modifier.PUBLIC) && !told.contains(Modifier.PROTECTED));
            }
            CHECK.due("a plain class: " + source.told(p), p.getLeaf().getKind() == Tree.Kind.CLASS, true);
        }
        for (TreePath p : source.all(NewClassTree.class)) {
            holds("no body: " + source.told(p), ((NewClassTree) p.getLeaf()).getClassBody() == null);
        }
        CHECK.due("one class in the file", source.unit.getTypeDecls().size(), 1);
        holds("no package", source.unit.getPackageName() == null);
    }

    /** No double and no float is used, so that none can be NaN. */
    private static boolean isType(TypeMirror type, int depth) {
        switch (type.getKind()) {
            case INT: case LONG: case SHORT: case BYTE: case CHAR: case BOOLEAN:
                return depth < 3;
            case VOID:
                return depth == 0;
            case ARRAY:
                return isType(((ArrayType) type).getComponentType(), depth + 1);
            case DECLARED:
                TypeElement e = (TypeElement) ((DeclaredType) type).asElement();
                return depth < 2 && (isOurs(e) || OTHER_TYPES.contains(e.getQualifiedName().toString()));
            default:
                return false;
        }
    }

    private static void rule3Types() {
        for (TreePath p : source.all(VariableTree.class)) {
            holds("a type of rule 3: " + source.told(p), isType(source.type(p), 0));
        }
        for (TreePath p : source.all(MethodTree.class)) {
            holds("tells a type of rule 3: " + source.told(p), isType(((ExecutableElement) source.element(p)).getReturnType(), 0));
        }
        for (TreePath p : source.all(BinaryTree.class)) {
            holds("a type of rule 3: " + source.told(p), isType(source.type(p), 0));
        }
        none(3, InstanceOfTree.class);
    }

    // ---- rules 4 and 5

    private static void rule4Library() {
        int many = 0;
        for (TreePath p : source.all(MethodInvocationTree.class)) {
            Element e = source.element(p);
            if (isOurs(e) || e.getSimpleName().contentEquals("<init>")) {
                continue;
            }
            String owner = ((TypeElement) e.getEnclosingElement()).getQualifiedName().toString();
            String name = e.getSimpleName().toString();
            many++;
            boolean told = LIBRARY.getOrDefault(owner, Set.of()).contains(name);
            boolean ofNumbers = NUMBER_CLASSES.contains(owner) && e.getModifiers().contains(Modifier.STATIC) && !name.endsWith("Exact");
            holds("of rule 4: " + source.told(p), told || ofNumbers);
            for (ExpressionTree a : ((MethodInvocationTree) p.getLeaf()).getArguments()) {
                TypeMirror type = source.type(p, a);
                holds("over int and long: " + source.told(p), !ofNumbers || isIntOrLong(type));
                holds("over numbers: " + source.told(p), !owner.equals("java.util.Arrays") || isNumbers(type));
            }
        }
        holds("library calls were found", many > 20);
        for (ImportTree i : source.unit.getImports()) {
            CHECK.due("an import of " + i, i.getQualifiedIdentifier().toString().equals("java.util.Arrays"), true);
        }
    }

    private static boolean isIntOrLong(TypeMirror type) {
        return type.getKind() == TypeKind.INT || type.getKind() == TypeKind.LONG;
    }

    private static boolean isNumbers(TypeMirror type) {
        TypeMirror one = type instanceof ArrayType row ? row.getComponentType() : type;
        return one.getKind().isPrimitive() && one.getKind() != TypeKind.BOOLEAN;
    }

    /** Fields of library classes are not told by rule 4: an array's length is, by rule 3. */
    private static void rule4Signs() throws IOException {
        for (TreePath p : source.all(MemberSelectTree.class)) {
            Element e = source.element(p);
            boolean field = e != null && e.getKind() == ElementKind.FIELD;
            holds("a field of ours: " + source.told(p), !field || isOurs(e) || e.getSimpleName().contentEquals("length"));
        }
        holds("signs 10 and 32 to 126 alone", Files.readString(FILE).chars().allMatch(c -> c == 10 || c >= 32 && c < 127));
        for (String line : Files.readAllLines(FILE)) {
            holds("120 signs at most: " + line, line.length() <= 120);
        }
    }

    private static void rule5StaticFields() {
        Set<TypeKind> ofRows = Set.of(TypeKind.INT, TypeKind.LONG, TypeKind.CHAR, TypeKind.BYTE);
        for (TreePath p : source.all(VariableTree.class)) {
            Element e = source.element(p);
            if (e.getKind() == ElementKind.FIELD && e.getModifiers().contains(Modifier.STATIC)) {
                holds("final: " + source.told(p), e.getModifiers().contains(Modifier.FINAL));
                boolean row = source.type(p) instanceof ArrayType a && ofRows.contains(a.getComponentType().getKind())
                    && isWrittenOut(((VariableTree) p.getLeaf()).getInitializer());
                holds("a constant: " + source.told(p), row || ((VariableElement) e).getConstantValue() != null);
            }
        }
        for (TreePath p : source.all(BlockTree.class)) {
            holds("no block of a class: " + source.told(p), !(p.getParentPath().getLeaf() instanceof ClassTree));
        }
        for (TreePath p : source.all(ArrayAccessTree.class)) {
            Element row = source.element(new TreePath(p, ((ArrayAccessTree) p.getLeaf()).getExpression()));
            boolean constant = row != null && row.getModifiers().contains(Modifier.STATIC);
            holds("never changed: " + source.told(p), !constant || !changed(p.getParentPath()).contains(row));
        }
    }

    private static boolean isWrittenOut(ExpressionTree value) {
        return value instanceof NewArrayTree row && row.getInitializers() != null
            && row.getInitializers().stream().allMatch(v -> v instanceof LiteralTree);
    }

    // ---- rules 6 and 7

    private static void rule6NothingThrown() {
        none(6, ThrowTree.class);
        none(6, TryTree.class);
        none(6, CatchTree.class);
        none(6, SynchronizedTree.class);
        none(6, AssertTree.class);
        none(6, SwitchExpressionTree.class);
        none(6, AnnotationTree.class);
        for (TreePath p : source.all(MethodTree.class)) {
            holds("throws nothing: " + source.told(p), ((MethodTree) p.getLeaf()).getThrows().isEmpty());
        }
    }

    private static void rule6NothingOfObjects() {
        Set<String> ofObjects = Set.of("equals", "hashCode", "toString", "getClass");
        for (TreePath p : source.all(MethodTree.class)) {
            String name = ((MethodTree) p.getLeaf()).getName().toString();
            holds("none of an object's own: " + source.told(p), !ofObjects.contains(name));
        }
        for (TreePath p : source.all(TypeCastTree.class)) {
            holds("a cast of numbers: " + source.told(p), source.type(p).getKind().isPrimitive());
        }
        for (TreePath p : source.all(BinaryTree.class)) {
            BinaryTree b = (BinaryTree) p.getLeaf();
            boolean compares = b.getKind() == Tree.Kind.EQUAL_TO || b.getKind() == Tree.Kind.NOT_EQUAL_TO;
            String type = source.type(p, b.getLeftOperand()).toString();
            holds("not of texts: " + source.told(p), !compares || !OTHER_TYPES.contains(type));
        }
    }

    /** What divides is a constant, or is known to be above 0 in the same method. */
    private static void rule7Divisors() {
        int many = 0;
        for (TreePath p : source.all(BinaryTree.class)) {
            BinaryTree b = (BinaryTree) p.getLeaf();
            if (b.getKind() == Tree.Kind.DIVIDE || b.getKind() == Tree.Kind.REMAINDER) {
                many++;
                ExpressionTree by = b.getRightOperand();
                boolean looked = Source.methodAround(p).getLeaf().toString().contains(by + " > 0");
                holds("looked at: " + source.told(p), looked || isConstant(p, by));
            }
        }
        holds("divisions were found", many > 3);
        for (TreePath p : source.all(CompoundAssignmentTree.class)) {
            Tree.Kind kind = p.getLeaf().getKind();
            holds("divides in sight: " + source.told(p),
                kind != Tree.Kind.DIVIDE_ASSIGNMENT && kind != Tree.Kind.REMAINDER_ASSIGNMENT);
        }
    }

    private static boolean isConstant(TreePath around, ExpressionTree e) {
        if (e instanceof LiteralTree) {
            return true;
        }
        if (e instanceof ParenthesizedTree inner) {
            return isConstant(around, inner.getExpression());
        }
        if (e instanceof BinaryTree b) {
            return isConstant(around, b.getLeftOperand()) && isConstant(around, b.getRightOperand());
        }
        return source.element(new TreePath(around, e)) instanceof VariableElement v && v.getConstantValue() != null;
    }

    /** An object out of a row may be none: it is kept in a variable and looked at there, or handed on or moved unused. */
    private static void rule7References() {
        int many = 0;
        for (TreePath p : source.all(ArrayAccessTree.class)) {
            if (source.type(p).getKind() == TypeKind.DECLARED) {
                many++;
                Tree around = p.getParentPath().getLeaf();
                holds("not used at once: " + source.told(p), !(around instanceof MemberSelectTree));
                if (around instanceof VariableTree v) {
                    String method = Source.methodAround(p).getLeaf().toString();
                    holds("looked at: " + source.told(p.getParentPath()),
                        method.contains(v.getName() + " != null") || method.contains(v.getName() + " == null"));
                }
            }
        }
        holds("such rows were found", many > 3);
    }

    private static void rule7Lengths() {
        for (TreePath p : source.all(NewArrayTree.class)) {
            for (ExpressionTree length : ((NewArrayTree) p.getLeaf()).getDimensions()) {
                holds("a constant's length: " + source.told(p), isConstant(p, length));
            }
        }
    }

    // ---- rules 8 and 11: calls

    private static void rule8And11Calls() {
        Calls calls = new Calls(source);
        Set<String> recursive = calls.recursive();
        CHECK.due("what calls itself: " + recursive, recursive.equals(Set.of("takeSum", "takeAtom")), true);
        for (TreePath p : source.all(MethodTree.class)) {
            MethodTree m = (MethodTree) p.getLeaf();
            if (recursive.contains(m.getName().toString())) {
                holds("private: " + source.told(p), source.element(p).getModifiers().contains(Modifier.PRIVATE));
                holds("carries its depth: " + source.told(p),
                    m.getParameters().stream().anyMatch(v -> v.getName().contentEquals("depth")));
            }
        }
        List<String> deepest = calls.deepest();
        holds("eight deep at most: " + deepest, deepest.size() <= 8);
        holds("calls were found: " + deepest, deepest.size() > 4);
    }

    // ---- rules 9 and 10

    /** The variables that a tree puts a value into. */
    private static Set<Element> changed(TreePath p) {
        Set<Element> found = new HashSet<>();
        for (TreePath q : source.inside(p.getLeaf(), ExpressionTree.class)) {
            Tree t = q.getLeaf();
            ExpressionTree into = t instanceof AssignmentTree a ? a.getVariable()
                : t instanceof CompoundAssignmentTree c ? c.getVariable()
                : t instanceof UnaryTree u && t.getKind() != Tree.Kind.UNARY_MINUS && t.getKind() != Tree.Kind.LOGICAL_COMPLEMENT
                    && t.getKind() != Tree.Kind.BITWISE_COMPLEMENT ? u.getExpression() : null;
            if (into instanceof ArrayAccessTree row) {
                into = row.getExpression();
            }
            if (into != null) {
                found.add(source.element(new TreePath(q, into)));
            }
        }
        return found;
    }

    private static Set<Element> named(TreePath p) {
        Set<Element> found = new HashSet<>();
        for (TreePath q : source.inside(p.getLeaf(), IdentifierTree.class)) {
            found.add(source.element(q));
        }
        return found;
    }

    /** A for steps in its header what its condition names, and in its body leaves that alone; a while steps such in its body. */
    private static void rule9Loops() {
        none(9, DoWhileLoopTree.class);
        for (TreePath p : source.all(ForLoopTree.class)) {
            ForLoopTree loop = (ForLoopTree) p.getLeaf();
            holds("a bound: " + source.told(p), loop.getCondition() != null && loop.getUpdate().size() == 1);
            Set<Element> stepped = changed(new TreePath(p, loop.getUpdate().get(0)));
            holds("steps one: " + source.told(p), stepped.size() == 1);
            holds("towards its bound: " + source.told(p), named(new TreePath(p, loop.getCondition())).containsAll(stepped));
            Set<Element> inBody = changed(new TreePath(p, loop.getStatement()));
            inBody.retainAll(stepped);
            holds("steps in its header alone: " + source.told(p), inBody.isEmpty());
        }
        for (TreePath p : source.all(WhileLoopTree.class)) {
            WhileLoopTree loop = (WhileLoopTree) p.getLeaf();
            Set<Element> stepped = changed(new TreePath(p, loop.getStatement()));
            stepped.retainAll(named(new TreePath(p, loop.getCondition())));
            holds("steps towards its bound: " + source.told(p), !stepped.isEmpty());
        }
    }

    private static void rule10Texts() {
        for (TreePath p : source.all(BinaryTree.class)) {
            holds("not joined by +: " + source.told(p), source.type(p).getKind().isPrimitive());
        }
        for (TreePath p : source.all(CompoundAssignmentTree.class)) {
            holds("not joined by +=: " + source.told(p), source.type(p).getKind().isPrimitive());
        }
    }

    // ---- rules 11 and 12

    private static void rule11Sizes() {
        int methods = 0;
        for (TreePath p : source.all(MethodTree.class)) {
            methods++;
            holds("seven at most: " + source.told(p), ((MethodTree) p.getLeaf()).getParameters().size() <= 7);
            holds("some sixty lines: " + source.told(p), source.lines(p.getLeaf()) <= 60);
        }
        holds("methods were found", methods > 150);
        holds("some twelve classes", source.all(ClassTree.class).size() <= 12);
        for (TreePath p : source.all(ClassTree.class)) {
            List<String> fields = new ArrayList<>();
            for (Tree member : ((ClassTree) p.getLeaf()).getMembers()) {
                if (member instanceof VariableTree v && !v.getModifiers().getFlags().contains(Modifier.STATIC)) {
                    fields.add(v.getName().toString());
                }
            }
            holds("some twenty fields: " + source.told(p), fields.size() <= 20);
        }
    }

    /** All is made with the object, but for the draft of the next TEXT; nothing is made in a loop. */
    private static void rule12Made() {
        List<TreePath> made = source.all(NewClassTree.class);
        made.addAll(source.all(NewArrayTree.class));
        for (TreePath p : made) {
            TreePath method = Source.methodAround(p);
            boolean draft = method != null && ((MethodTree) method.getLeaf()).getName().contentEquals("take");
            holds("made with the object: " + source.told(p), draft || source.isOfMaking(p));
            holds("not in a loop: " + source.told(p), Source.around(p, LOOPS) == null);
        }
    }
}

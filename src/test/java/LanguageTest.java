import com.sun.source.tree.AssertTree;
import com.sun.source.tree.BinaryTree;
import com.sun.source.tree.ClassTree;
import com.sun.source.tree.CompilationUnitTree;
import com.sun.source.tree.CompoundAssignmentTree;
import com.sun.source.tree.ExpressionTree;
import com.sun.source.tree.InstanceOfTree;
import com.sun.source.tree.LambdaExpressionTree;
import com.sun.source.tree.LiteralTree;
import com.sun.source.tree.MemberReferenceTree;
import com.sun.source.tree.MethodInvocationTree;
import com.sun.source.tree.MethodTree;
import com.sun.source.tree.NewArrayTree;
import com.sun.source.tree.NewClassTree;
import com.sun.source.tree.SynchronizedTree;
import com.sun.source.tree.ThrowTree;
import com.sun.source.tree.Tree;
import com.sun.source.tree.TryTree;
import com.sun.source.tree.TypeCastTree;
import com.sun.source.tree.VariableTree;
import com.sun.source.util.JavacTask;
import com.sun.source.util.TreePath;
import com.sun.source.util.TreePathScanner;
import com.sun.source.util.Trees;
import java.io.IOException;
import java.nio.file.Path;
import java.util.ArrayList;
import java.util.HashMap;
import java.util.List;
import java.util.Map;
import java.util.Set;
import java.util.TreeSet;
import javax.lang.model.element.Element;
import javax.lang.model.element.ElementKind;
import javax.lang.model.element.ExecutableElement;
import javax.lang.model.element.Modifier;
import javax.lang.model.element.TypeElement;
import javax.lang.model.element.VariableElement;
import javax.lang.model.type.ArrayType;
import javax.lang.model.type.TypeKind;
import javax.lang.model.type.TypeMirror;
import javax.tools.JavaCompiler;
import javax.tools.StandardJavaFileManager;
import javax.tools.ToolProvider;

/** The source, as the compiler reads it, keeps to the rules of LANGUAGE.md that can be told from it. */
public final class LanguageTest extends TreePathScanner<Void, Void> {
    private static final int DEEPEST = 8;
    private static final Set<String> TEXT_CALLS = Set.of("String.length", "String.charAt", "String.isEmpty", "String.equals", "String.indexOf",
        "String.substring", "String.toCharArray", "StringBuilder.append", "StringBuilder.charAt", "StringBuilder.setCharAt",
        "StringBuilder.setLength", "StringBuilder.deleteCharAt", "StringBuilder.reverse", "StringBuilder.length", "StringBuilder.toString",
        "System.arraycopy", "Arrays.copyOf", "Arrays.copyOfRange", "Arrays.fill", "List.of");
    private static final Set<String> LIST_CALLS = Set.of("add", "get", "set", "remove", "size", "isEmpty", "clear");
    private static final Set<String> THROWN = Set.of("IllegalStateException", "IllegalArgumentException", "IndexOutOfBoundsException",
        "ArithmeticException", "UnsupportedOperationException", "NoSuchElementException", "RuntimeException");
    private static final Set<String> CONSTANTS = Set.of("int", "long", "boolean", "char", "java.lang.String", "int[]", "long[]", "char[]", "byte[]");

    private final Trees trees;
    private final CompilationUnitTree unit;
    private final Map<String, Set<String>> calls = new HashMap<>();
    private final Set<String> face = new TreeSet<>();
    private final Map<String, Integer> depths = new HashMap<>();
    private int wrong = 0;

    private LanguageTest(Trees trees, CompilationUnitTree unit) {
        this.trees = trees;
        this.unit = unit;
    }

    public static void main(String[] args) throws IOException {
        JavaCompiler compiler = ToolProvider.getSystemJavaCompiler();
        int wrong = 0;
        int deepest = 0;
        try (StandardJavaFileManager files = compiler.getStandardFileManager(null, null, null)) {
            JavacTask task = (JavacTask) compiler.getTask(null, files, null, List.of("-proc:none"), null,
                files.getJavaFileObjects(Path.of("src/main/java/SunBills.java")));
            Iterable<? extends CompilationUnitTree> units = task.parse();
            task.analyze();
            for (CompilationUnitTree unit : units) {
                LanguageTest test = new LanguageTest(Trees.instance(task), unit);
                test.scan(unit, null);
                deepest = test.deepestCall();
                wrong += test.wrong;
            }
        }
        System.out.println("language: calls go " + deepest + " deep, " + wrong + " wrong");
        if (wrong != 0 || deepest == 0) {
            System.exit(1);
        }
    }

    private void must(boolean so, int rule, String what, Tree at) {
        if (!so) {
            wrong++;
            long line = unit.getLineMap().getLineNumber(trees.getSourcePositions().getStartPosition(unit, at));
            System.out.println("rule " + rule + ", line " + line + ": " + what);
        }
    }

    private Element elementOf(Tree tree) {
        return trees.getElement(TreePath.getPath(unit, tree));
    }

    private TypeMirror typeOf(Tree tree) {
        return trees.getTypeMirror(TreePath.getPath(unit, tree));
    }

    private static boolean isOwn(Element element) {
        for (Element e = element; e != null; e = e.getEnclosingElement()) {
            if (e instanceof TypeElement && e.getSimpleName().contentEquals("SunBills")) {
                return true;
            }
        }
        return false;
    }

    private static String nameOf(Element method) {
        return method.getEnclosingElement().getSimpleName() + "." + method;
    }

    /** The method or constructor that a place is in; null in the initialiser of a field. */
    private MethodTree around() {
        for (TreePath p = getCurrentPath(); p != null; p = p.getParentPath()) {
            if (p.getLeaf() instanceof MethodTree m) {
                return m;
            }
        }
        return null;
    }

    // ---- rules 2, 6, 10: what may not stand there at all

    @Override public Void visitLambdaExpression(LambdaExpressionTree t, Void v) {
        must(false, 2, "a lambda", t);
        return super.visitLambdaExpression(t, v);
    }

    @Override public Void visitMemberReference(MemberReferenceTree t, Void v) {
        must(false, 2, "a method reference", t);
        return super.visitMemberReference(t, v);
    }

    @Override public Void visitClass(ClassTree t, Void v) {
        Tree parent = getCurrentPath().getParentPath().getLeaf();
        must(parent instanceof CompilationUnitTree || parent instanceof ClassTree, 2, "a local class", t);
        return super.visitClass(t, v);
    }

    @Override public Void visitTry(TryTree t, Void v) {
        must(false, 6, "a try: nothing that is called here throws", t);
        return super.visitTry(t, v);
    }

    @Override public Void visitSynchronized(SynchronizedTree t, Void v) {
        must(false, 6, "synchronized", t);
        return super.visitSynchronized(t, v);
    }

    @Override public Void visitAssert(AssertTree t, Void v) {
        must(false, 6, "assert", t);
        return super.visitAssert(t, v);
    }

    @Override public Void visitInstanceOf(InstanceOfTree t, Void v) {
        must(isOwn(elementOf(t.getType())), 6, "instanceof of what isn't an own class", t);
        return super.visitInstanceOf(t, v);
    }

    @Override public Void visitThrow(ThrowTree t, Void v) {
        ExpressionTree e = t.getExpression();
        boolean made = e instanceof NewClassTree;
        must(made, 6, "throws what isn't made there", t);
        if (made) {
            NewClassTree n = (NewClassTree) e;
            must(THROWN.contains(n.getIdentifier().toString()), 6, "throws " + n.getIdentifier(), t);
            must(n.getArguments().isEmpty() || n.getArguments().size() == 1 && n.getArguments().get(0) instanceof LiteralTree,
                6, "an exception's text isn't written out", t);
        }
        MethodTree m = around();
        must(m != null && m.getReturnType() != null, 6, "a throw in a constructor", t);
        return super.visitThrow(t, v);
    }

    @Override public Void visitBinary(BinaryTree t, Void v) {
        boolean text = isText(t.getLeftOperand()) || isText(t.getRightOperand());
        must(!(t.getKind() == Tree.Kind.PLUS && text), 10, "texts joined by +", t);
        must(!((t.getKind() == Tree.Kind.EQUAL_TO || t.getKind() == Tree.Kind.NOT_EQUAL_TO) && text), 6, "texts held together by ==", t);
        if (t.getKind() == Tree.Kind.DIVIDE || t.getKind() == Tree.Kind.REMAINDER) {
            must(isSafeDivisor(t.getRightOperand()), 7, "a divisor that isn't looked at: " + t, t);
        }
        return super.visitBinary(t, v);
    }

    @Override public Void visitCompoundAssignment(CompoundAssignmentTree t, Void v) {
        must(!isText(t.getVariable()), 10, "texts joined by +=", t);
        if (t.getKind() == Tree.Kind.DIVIDE_ASSIGNMENT || t.getKind() == Tree.Kind.REMAINDER_ASSIGNMENT) {
            must(isSafeDivisor(t.getExpression()), 7, "a divisor that isn't looked at: " + t, t);
        }
        return super.visitCompoundAssignment(t, v);
    }

    private boolean isText(Tree t) {
        TypeMirror type = typeOf(t);
        return type != null && type.toString().equals("java.lang.String");
    }

    /** A number that isn't 0, or one that its method compares with 0 somewhere. */
    private boolean isSafeDivisor(ExpressionTree divisor) {
        if (divisor instanceof LiteralTree literal) {
            return !literal.getValue().equals(0);
        }
        if (elementOf(divisor) instanceof VariableElement v && v.getConstantValue() != null) {
            return !v.getConstantValue().equals(0);
        }
        MethodTree m = around();
        boolean[] found = new boolean[1];
        if (m != null) {
            new com.sun.source.util.TreeScanner<Void, Void>() {
                @Override public Void visitBinary(BinaryTree t, Void v) {
                    found[0] |= isComparing(t.getKind()) && t.getLeftOperand().toString().equals(divisor.toString())
                        && t.getRightOperand().toString().equals("0");
                    return super.visitBinary(t, v);
                }
            }.scan(m.getBody(), null);
        }
        return found[0];
    }

    private static boolean isComparing(Tree.Kind kind) {
        return kind == Tree.Kind.EQUAL_TO || kind == Tree.Kind.NOT_EQUAL_TO || kind == Tree.Kind.GREATER_THAN || kind == Tree.Kind.LESS_THAN_EQUAL;
    }

    // ---- rules 3, 5, 12: types, constants, what is made

    @Override public Void visitVariable(VariableTree t, Void v) {
        must(isType(typeOf(t.getType())), 3, "the type of " + t, t);
        Element e = elementOf(t);
        if (e.getKind() == ElementKind.FIELD && e.getModifiers().contains(Modifier.STATIC)) {
            must(e.getModifiers().contains(Modifier.FINAL), 5, "static and changes: " + t, t);
            must(CONSTANTS.contains(e.asType().toString()), 5, "no constant: " + t, t);
        }
        return super.visitVariable(t, v);
    }

    private static boolean isType(TypeMirror type) {
        if (type.getKind() == TypeKind.ARRAY) {
            TypeMirror inside = ((ArrayType) type).getComponentType();
            boolean twice = inside.getKind() == TypeKind.ARRAY && ((ArrayType) inside).getComponentType().getKind().isPrimitive();
            return twice || inside.getKind() != TypeKind.ARRAY && isType(inside);
        }
        String name = type.toString();
        return type.getKind().isPrimitive() || name.startsWith("SunBills") || name.equals("java.lang.String")
            || name.equals("java.lang.StringBuilder");
    }

    @Override public Void visitNewArray(NewArrayTree t, Void v) {
        must(isMadeOnce(), 12, "a call makes an array", t);
        return super.visitNewArray(t, v);
    }

    @Override public Void visitNewClass(NewClassTree t, Void v) {
        boolean thrown = getCurrentPath().getParentPath().getLeaf() instanceof ThrowTree;
        must(thrown || isMadeOnce(), 12, "a call makes an object", t);
        if (isMadeOnce()) {
            must(isOwn(elementOf(t)), 4, "makes " + t.getIdentifier(), t);
            addCall(elementOf(t));
        }
        return super.visitNewClass(t, v);
    }

    /** In a constructor or the initialiser of a field, and not in a loop. */
    private boolean isMadeOnce() {
        MethodTree m = around();
        if (m != null && m.getReturnType() != null) {
            return false;
        }
        for (TreePath p = getCurrentPath(); p != null && p.getLeaf() != m; p = p.getParentPath()) {
            if (p.getLeaf().getKind().toString().endsWith("_LOOP")) {
                return false;
            }
        }
        return true;
    }

    @Override public Void visitTypeCast(TypeCastTree t, Void v) {
        must(typeOf(t.getType()).getKind().isPrimitive(), 6, "a cast of an object", t);
        return super.visitTypeCast(t, v);
    }

    // ---- rules 4, 8, 11: what is called, and how deep

    @Override public Void visitMethod(MethodTree t, Void v) {
        Element e = elementOf(t);
        calls.computeIfAbsent(nameOf(e), k -> new TreeSet<>());
        if (e.getModifiers().contains(Modifier.PUBLIC)) {
            face.add(nameOf(e));
        }
        must(t.getParameters().size() <= 7, 11, "too many parameters", t);
        return super.visitMethod(t, v);
    }

    @Override public Void visitMethodInvocation(MethodInvocationTree t, Void v) {
        ExecutableElement called = (ExecutableElement) elementOf(t.getMethodSelect());
        if (isOwn(called)) {
            must(around() != null, 12, "a field's initialiser calls " + called, t);
            addCall(called);
        } else if (called.getSimpleName().contentEquals("<init>")) {
            return super.visitMethodInvocation(t, v);
        } else {
            String type = called.getEnclosingElement().getSimpleName().toString();
            must(isAllowed(type, called), 4, "calls " + type + "." + called, t);
        }
        return super.visitMethodInvocation(t, v);
    }

    /** What the initialiser of a field makes is made by the constructors of its class. */
    private void addCall(Element called) {
        MethodTree m = around();
        if (m != null) {
            calls.computeIfAbsent(nameOf(elementOf(m)), k -> new TreeSet<>()).add(nameOf(called));
            return;
        }
        TreePath p = getCurrentPath();
        while (!(p.getLeaf() instanceof ClassTree)) {
            p = p.getParentPath();
        }
        for (Element e : trees.getElement(p).getEnclosedElements()) {
            if (e.getKind() == ElementKind.CONSTRUCTOR) {
                calls.computeIfAbsent(nameOf(e), k -> new TreeSet<>()).add(nameOf(called));
            }
        }
    }

    private static boolean isAllowed(String type, ExecutableElement called) {
        String name = called.getSimpleName().toString();
        if (type.equals("Math") || type.equals("Integer") || type.equals("Long")) {
            boolean whole = called.getModifiers().contains(Modifier.STATIC) && !name.endsWith("Exact");
            for (VariableElement p : called.getParameters()) {
                whole &= p.asType().getKind() == TypeKind.INT || p.asType().getKind() == TypeKind.LONG;
            }
            return whole;
        }
        return TEXT_CALLS.contains(type + "." + name) || (type.equals("List") || type.equals("ArrayList")) && LIST_CALLS.contains(name);
    }

    /** How many calls stand open at once at most, the one of the face with; there is no recursion. */
    private int deepestCall() {
        int deepest = 0;
        for (String call : face) {
            deepest = Math.max(deepest, depthOf(call, new ArrayList<>()));
        }
        must(deepest <= DEEPEST, 11, "calls go " + deepest + " deep", unit);
        // A method that no call of the face comes to has no use.
        for (String method : calls.keySet()) {
            must(depths.containsKey(method), 11, method + " is never called", unit);
        }
        return deepest;
    }

    private int depthOf(String method, List<String> open) {
        must(!open.contains(method), 8, "recursion of " + method, unit);
        if (open.contains(method)) {
            return 0;
        }
        if (depths.containsKey(method)) {
            return depths.get(method);
        }
        List<String> now = new ArrayList<>(open);
        now.add(method);
        int deepest = 0;
        for (String called : calls.getOrDefault(method, Set.of())) {
            deepest = Math.max(deepest, depthOf(called, now));
        }
        depths.put(method, deepest + 1);
        return deepest + 1;
    }
}

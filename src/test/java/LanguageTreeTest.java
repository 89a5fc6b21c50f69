import com.sun.source.tree.BinaryTree;
import com.sun.source.tree.CompilationUnitTree;
import com.sun.source.tree.CompoundAssignmentTree;
import com.sun.source.tree.DoWhileLoopTree;
import com.sun.source.tree.EnhancedForLoopTree;
import com.sun.source.tree.ExpressionTree;
import com.sun.source.tree.ForLoopTree;
import com.sun.source.tree.MethodInvocationTree;
import com.sun.source.tree.MethodTree;
import com.sun.source.tree.NewArrayTree;
import com.sun.source.tree.NewClassTree;
import com.sun.source.tree.Tree;
import com.sun.source.tree.TypeCastTree;
import com.sun.source.tree.UnaryTree;
import com.sun.source.tree.VariableTree;
import com.sun.source.tree.WhileLoopTree;
import com.sun.source.util.JavacTask;
import com.sun.source.util.TreePath;
import com.sun.source.util.TreePathScanner;
import com.sun.source.util.TreeScanner;
import com.sun.source.util.Trees;
import java.io.IOException;
import java.nio.file.Path;
import java.util.EnumSet;
import java.util.LinkedHashSet;
import java.util.List;
import java.util.Map;
import java.util.Set;
import java.util.TreeMap;
import java.util.TreeSet;
import javax.lang.model.element.Element;
import javax.lang.model.element.ElementKind;
import javax.lang.model.element.ExecutableElement;
import javax.lang.model.element.Modifier;
import javax.lang.model.type.TypeMirror;
import javax.tools.JavaCompiler;
import javax.tools.StandardJavaFileManager;
import javax.tools.ToolProvider;

/** LANGUAGE.md's rules on the tree that the compiler makes of the class: what its text alone can't show. */
public final class LanguageTreeTest extends TreePathScanner<Void, Void> {
    private static final Path SOURCE = Path.of("src/main/java/IceOfApplause.java");
    private static final Check C = new Check();
    private static final Set<String> WHOLE = Set.of("int", "long", "char", "byte", "short");
    private static final Set<String> LIBRARY = Set.of("Math.abs(int)", "Math.max(int,int)", "Math.min(int,int)",
        "String.indexOf(int)", "Arrays.fill(int[],int)", "Arrays.fill(long[],long)", "Object.Object()",
        "System.arraycopy(java.lang.Object,int,java.lang.Object,int,int)");
    private static final Set<String> CONSTANTS = Set.of("int", "long", "boolean", "char", "java.lang.String", "int[]",
        "long[]", "char[]", "byte[]");
    private static final Set<Tree.Kind> LOGICAL = EnumSet.of(Tree.Kind.CONDITIONAL_AND, Tree.Kind.CONDITIONAL_OR);
    private static final Set<Tree.Kind> ORDERED = EnumSet.of(Tree.Kind.LESS_THAN, Tree.Kind.LESS_THAN_EQUAL,
        Tree.Kind.GREATER_THAN, Tree.Kind.GREATER_THAN_EQUAL);
    private static final Set<Tree.Kind> REFUSED = EnumSet.of(Tree.Kind.LAMBDA_EXPRESSION, Tree.Kind.MEMBER_REFERENCE,
        Tree.Kind.TRY, Tree.Kind.CATCH, Tree.Kind.THROW, Tree.Kind.SYNCHRONIZED, Tree.Kind.ASSERT,
        Tree.Kind.SWITCH_EXPRESSION, Tree.Kind.YIELD, Tree.Kind.ANNOTATION, Tree.Kind.DOUBLE_LITERAL,
        Tree.Kind.FLOAT_LITERAL, Tree.Kind.PACKAGE);
    private static final int DEEPEST_CALLS = 8;

    private final Trees trees;
    private final CompilationUnitTree unit;
    private final Map<String, Set<String>> calls = new TreeMap<>();
    private String method = "";

    private LanguageTreeTest(Trees trees, CompilationUnitTree unit) {
        this.trees = trees;
        this.unit = unit;
    }

    public static void main(String[] args) throws IOException {
        JavaCompiler compiler = ToolProvider.getSystemJavaCompiler();
        try (StandardJavaFileManager files = compiler.getStandardFileManager(null, null, null)) {
            JavacTask task = (JavacTask) compiler.getTask(null, files, null, List.of("-proc:none"), null,
                files.getJavaFileObjects(SOURCE));
            CompilationUnitTree unit = task.parse().iterator().next();
            task.analyze();
            LanguageTreeTest test = new LanguageTreeTest(Trees.instance(task), unit);
            test.scan(new TreePath(unit), null);
            test.chainsOfCalls();
            test.recursion();
        }
        C.end();
    }

    private void holds(String rule, Tree where, boolean so) {
        long line = unit.getLineMap().getLineNumber(trees.getSourcePositions().getStartPosition(unit, where));
        C.promise(0, "rule " + rule);
        C.holds("line " + line + ": " + where, so);
    }

    private String typeOf(Tree tree) {
        TypeMirror type = trees.getTypeMirror(new TreePath(getCurrentPath(), tree));
        return type == null ? "none" : type.toString();
    }

    private static boolean isOwn(Element element) {
        return element != null && element.toString().startsWith("IceOfApplause");
    }

    @Override
    public Void scan(Tree tree, Void none) {
        if (tree != null) {
            holds("3, 6", tree, !REFUSED.contains(tree.getKind()));
        }
        return super.scan(tree, none);
    }

    @Override
    public Void visitBinary(BinaryTree tree, Void none) {
        String left = typeOf(tree.getLeftOperand());
        String right = typeOf(tree.getRightOperand());
        boolean fits = LOGICAL.contains(tree.getKind()) ? left.equals("boolean") && right.equals("boolean")
            : WHOLE.contains(left) && WHOLE.contains(right);
        holds("10 (arithmetic on whole numbers, && and || on truths)", tree, fits);
        return super.visitBinary(tree, none);
    }

    @Override
    public Void visitCompoundAssignment(CompoundAssignmentTree tree, Void none) {
        holds("10 (arithmetic on whole numbers)", tree, WHOLE.contains(typeOf(tree.getVariable())));
        return super.visitCompoundAssignment(tree, none);
    }

    @Override
    public Void visitUnary(UnaryTree tree, Void none) {
        boolean isNot = tree.getKind() == Tree.Kind.LOGICAL_COMPLEMENT;
        holds("10 (arithmetic on whole numbers)", tree, isNot || WHOLE.contains(typeOf(tree.getExpression())));
        return super.visitUnary(tree, none);
    }

    @Override
    public Void visitTypeCast(TypeCastTree tree, Void none) {
        holds("6 (casts of numbers)", tree,
            WHOLE.contains(typeOf(tree.getType())) && WHOLE.contains(typeOf(tree.getExpression())));
        return super.visitTypeCast(tree, none);
    }

    @Override
    public Void visitNewClass(NewClassTree tree, Void none) {
        Element constructor = trees.getElement(getCurrentPath());
        holds("2, 4", tree, tree.getClassBody() == null && isOwn(constructor.getEnclosingElement()));
        note(constructor);
        return super.visitNewClass(tree, none);
    }

    @Override
    public Void visitNewArray(NewArrayTree tree, Void none) {
        String type = typeOf(tree);
        String held = type.substring(0, type.length() - 2);
        holds("3 (rows of numbers or of own classes)", tree, WHOLE.contains(held) || held.startsWith("IceOfApplause."));
        return super.visitNewArray(tree, none);
    }

    @Override
    public Void visitVariable(VariableTree tree, Void none) {
        Element variable = trees.getElement(getCurrentPath());
        Set<Modifier> modifiers = variable.getModifiers();
        if (variable.getKind() == ElementKind.FIELD && modifiers.contains(Modifier.STATIC)) {
            holds("5 (static fields are constants)", tree,
                modifiers.contains(Modifier.FINAL) && CONSTANTS.contains(variable.asType().toString()));
        }
        return super.visitVariable(tree, none);
    }

    @Override
    public Void visitMethod(MethodTree tree, Void none) {
        ExecutableElement element = (ExecutableElement) trees.getElement(getCurrentPath());
        holds("11 (seven parameters)", tree, tree.getParameters().size() <= 7);
        String outer = method;
        method = nameOf(element);
        calls.putIfAbsent(method, new LinkedHashSet<>());
        super.visitMethod(tree, none);
        method = outer;
        return null;
    }

    @Override
    public Void visitMethodInvocation(MethodInvocationTree tree, Void none) {
        Element called = trees.getElement(getCurrentPath());
        Element owner = called.getEnclosingElement();
        if (!isOwn(owner)) {
            String name = owner.getSimpleName() + "." + (called.getKind() == ElementKind.CONSTRUCTOR ? "Object()" : called);
            holds("4 (" + name + ")", tree, LIBRARY.contains(name));
        }
        note(called);
        return super.visitMethodInvocation(tree, none);
    }

    private static String nameOf(Element called) {
        return called.getEnclosingElement().getSimpleName() + "." + called;
    }

    private void note(Element called) {
        calls.computeIfAbsent(method, k -> new LinkedHashSet<>()).add(nameOf(called));
    }

    // ---- rule 9: the end of a loop is seen in its own lines

    @Override
    public Void visitForLoop(ForLoopTree tree, Void none) {
        looped(tree, tree.getCondition());
        return super.visitForLoop(tree, none);
    }

    @Override
    public Void visitWhileLoop(WhileLoopTree tree, Void none) {
        looped(tree, tree.getCondition());
        return super.visitWhileLoop(tree, none);
    }

    @Override
    public Void visitDoWhileLoop(DoWhileLoopTree tree, Void none) {
        looped(tree, tree.getCondition());
        return super.visitDoWhileLoop(tree, none);
    }

    @Override
    public Void visitEnhancedForLoop(EnhancedForLoopTree tree, Void none) {
        holds("12 (loops by index)", tree, typeOf(tree.getExpression()).endsWith("[]"));
        return super.visitEnhancedForLoop(tree, none);
    }

    /** One of the conditions that are joined by && holds a counter against a bound, without a call. */
    private void looped(Tree loop, ExpressionTree condition) {
        boolean[] bounded = {false};
        new TreeScanner<Void, Void>() {
            @Override
            public Void visitBinary(BinaryTree tree, Void none) {
                if (ORDERED.contains(tree.getKind())) {
                    bounded[0] |= !hasCall(tree);
                    return null;
                }
                return tree.getKind() == Tree.Kind.CONDITIONAL_AND ? super.visitBinary(tree, none) : null;
            }
        }.scan(condition, null);
        holds("9 (a counter against a bound)", loop, bounded[0]);
    }

    private static boolean hasCall(Tree tree) {
        boolean[] found = {false};
        new TreeScanner<Void, Void>() {
            @Override
            public Void visitMethodInvocation(MethodInvocationTree call, Void none) {
                found[0] = true;
                return null;
            }
        }.scan(tree, null);
        return found[0];
    }

    // ---- rules 8, 11: how deep calls go

    private void chainsOfCalls() {
        C.promise(0, "rule 11");
        for (String name : calls.keySet()) {
            int deep = deepest(name, new LinkedHashSet<>());
            C.holds("calls at most eight deep: " + name + " goes " + deep, deep <= DEEPEST_CALLS);
        }
    }

    /** Calls from a method on, each once a chain; what recursion adds isn't counted. */
    private int deepest(String name, Set<String> open) {
        if (!calls.containsKey(name) || isRecursive(name) || !open.add(name)) {
            return 0;
        }
        int below = 0;
        for (String called : calls.get(name)) {
            below = Math.max(below, deepest(called, open));
        }
        open.remove(name);
        return below + 1;
    }

    private boolean isRecursive(String name) {
        Set<String> reached = new TreeSet<>();
        reach(name, reached);
        return reached.contains(name);
    }

    private void reach(String from, Set<String> reached) {
        for (String called : calls.getOrDefault(from, Set.of())) {
            if (reached.add(called)) {
                reach(called, reached);
            }
        }
    }

    /** Only what carries its depth calls itself: the reading of a text (at most six open signs) and acts. */
    private void recursion() {
        C.promise(0, "rule 8");
        Set<String> recursive = new TreeSet<>();
        for (String name : calls.keySet()) {
            if (isRecursive(name)) {
                recursive.add(name);
            }
        }
        C.holds("methods that come to themselves again: " + recursive, recursive.equals(new TreeSet<>(Set.of(
            "Tape.readLevel(int,int)", "Tape.readOperand(int)", "Tape.readOpened(int)",
            "Bodies.called(int,int,int,int)", "Bodies.run(int,int,int)"))));
    }
}

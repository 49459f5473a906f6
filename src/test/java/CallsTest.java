import com.sun.source.tree.AssertTree;
import com.sun.source.tree.AssignmentTree;
import com.sun.source.tree.BinaryTree;
import com.sun.source.tree.CatchTree;
import com.sun.source.tree.ClassTree;
import com.sun.source.tree.CompilationUnitTree;
import com.sun.source.tree.CompoundAssignmentTree;
import com.sun.source.tree.DoWhileLoopTree;
import com.sun.source.tree.ExpressionTree;
import com.sun.source.tree.ForLoopTree;
import com.sun.source.tree.IdentifierTree;
import com.sun.source.tree.LambdaExpressionTree;
import com.sun.source.tree.MemberReferenceTree;
import com.sun.source.tree.MethodInvocationTree;
import com.sun.source.tree.MethodTree;
import com.sun.source.tree.NewArrayTree;
import com.sun.source.tree.NewClassTree;
import com.sun.source.tree.SynchronizedTree;
import com.sun.source.tree.ThrowTree;
import com.sun.source.tree.Tree;
import com.sun.source.tree.TryTree;
import com.sun.source.tree.TypeCastTree;
import com.sun.source.tree.UnaryTree;
import com.sun.source.tree.VariableTree;
import com.sun.source.tree.WhileLoopTree;
import com.sun.source.util.JavacTask;
import com.sun.source.util.TreePath;
import com.sun.source.util.TreePathScanner;
import com.sun.source.util.TreeScanner;
import com.sun.source.util.Trees;
import java.io.IOException;
import java.nio.file.Path;
import java.util.ArrayList;
import java.util.HashMap;
import java.util.HashSet;
import java.util.LinkedHashMap;
import java.util.List;
import java.util.Map;
import java.util.Set;
import javax.lang.model.element.Element;
import javax.lang.model.element.Modifier;
import javax.lang.model.element.Name;
import javax.lang.model.type.TypeMirror;
import javax.tools.JavaCompiler;
import javax.tools.StandardJavaFileManager;
import javax.tools.ToolProvider;

/** The rules of LANGUAGE.md that the compiler's own view of the program tells: words, loops, and how deep calls go. */
public final class CallsTest extends TreePathScanner<Void, Void> {
    private static final Path PROGRAM = Path.of("src/main/java/ShareCoder.java");
    private static final int MOST_DEEP = 8;
    private static final int MOST_PARAMETERS = 7;
    private static final int MOST_CLASSES = 12;

    private final Due due = new Due();
    private final Trees trees;
    private final Map<Element, Set<Element>> callees = new LinkedHashMap<>();
    private final Map<Element, Integer> depths = new HashMap<>();
    private Element caller = null;
    private int classes = 0;
    private int loops = 0;

    private CallsTest(Trees trees) {
        this.trees = trees;
    }

    public static void main(String[] args) throws IOException {
        JavaCompiler compiler = ToolProvider.getSystemJavaCompiler();
        try (StandardJavaFileManager files = compiler.getStandardFileManager(null, null, null)) {
            JavacTask task = (JavacTask) compiler.getTask(null, files, null, List.of("-proc:none"), null,
                    files.getJavaFileObjects(PROGRAM));
            Iterable<? extends CompilationUnitTree> units = task.parse();
            task.analyze();
            CallsTest test = new CallsTest(Trees.instance(task));
            for (CompilationUnitTree unit : units) {
                test.scan(new TreePath(unit), null);
            }
            test.depthOfCalls();
            test.due.holds("rule 11: classes: " + test.classes, test.classes <= MOST_CLASSES);
            test.due.holds("loops were seen", test.loops > 20);
            test.due.finish("CallsTest");
        }
    }

    private void never(String what, Tree tree) {
        due.holds(what + ": " + tree, false);
    }

    private Element element() {
        return trees.getElement(getCurrentPath());
    }

    @Override
    public Void visitClass(ClassTree tree, Void unused) {
        classes++;
        boolean inside = getCurrentPath().getParentPath().getLeaf() instanceof ClassTree;
        boolean outermost = getCurrentPath().getParentPath().getLeaf() instanceof CompilationUnitTree;
        due.holds("rule 2: " + tree.getSimpleName() + " is neither local nor anonymous", inside || outermost);
        due.holds("rule 2: " + tree.getSimpleName() + " is static",
                outermost || element().getModifiers().contains(Modifier.STATIC));
        for (Tree member : tree.getMembers()) {
            due.holds("rule 5: no initialiser block", member.getKind() != Tree.Kind.BLOCK);
        }
        return super.visitClass(tree, unused);
    }

    @Override
    public Void visitMethod(MethodTree tree, Void unused) {
        due.holds("rule 11: " + tree.getName() + " takes at most seven",
                tree.getParameters().size() <= MOST_PARAMETERS);
        Element outer = caller;
        caller = element();
        callees.computeIfAbsent(caller, key -> new HashSet<>());
        super.visitMethod(tree, unused);
        caller = outer;
        return null;
    }

    @Override
    public Void visitMethodInvocation(MethodInvocationTree tree, Void unused) {
        if (caller != null) {
            callees.get(caller).add(element());
        }
        return super.visitMethodInvocation(tree, unused);
    }

    @Override
    public Void visitNewClass(NewClassTree tree, Void unused) {
        boolean inConstructor = caller == null || caller.getSimpleName().contentEquals("<init>");
        due.holds("no call makes an object: " + tree, inConstructor);
        return super.visitNewClass(tree, unused);
    }

    @Override
    public Void visitNewArray(NewArrayTree tree, Void unused) {
        boolean inConstructor = caller == null || caller.getSimpleName().contentEquals("<init>");
        due.holds("no call makes an array: " + tree, inConstructor);
        return super.visitNewArray(tree, unused);
    }

    @Override
    public Void visitTypeCast(TypeCastTree tree, Void unused) {
        TypeMirror type = trees.getTypeMirror(new TreePath(getCurrentPath(), tree.getType()));
        due.holds("rule 6: a cast of numbers: " + tree, type.getKind().isPrimitive());
        return super.visitTypeCast(tree, unused);
    }

    @Override
    public Void visitForLoop(ForLoopTree tree, Void unused) {
        loops++;
        due.holds("rule 9: a loop has a counter against a bound: " + tree, isCounted(tree));
        return super.visitForLoop(tree, unused);
    }

    @Override
    public Void visitWhileLoop(WhileLoopTree tree, Void unused) {
        never("rule 9, a loop without a counter", tree);
        return null;
    }

    @Override
    public Void visitDoWhileLoop(DoWhileLoopTree tree, Void unused) {
        never("rule 9, a loop without a counter", tree);
        return null;
    }

    /** Whether one counter goes by ones towards a bound that the condition names, and nothing else changes it. */
    private static boolean isCounted(ForLoopTree loop) {
        if (loop.getInitializer().size() != 1 || loop.getUpdate().size() != 1
                || !(loop.getInitializer().get(0) instanceof VariableTree counter)
                || !(loop.getUpdate().get(0).getExpression() instanceof UnaryTree step)
                || !isNamed(step.getExpression(), counter.getName())) {
            return false;
        }
        boolean rising = step.getKind() == Tree.Kind.POSTFIX_INCREMENT;
        boolean falling = step.getKind() == Tree.Kind.POSTFIX_DECREMENT;
        return (rising || falling)
                && isBounded(loop.getCondition(), counter.getName(), rising)
                && !isChanged(loop.getStatement(), counter.getName());
    }

    private static boolean isNamed(Tree tree, Name name) {
        return tree instanceof IdentifierTree identifier && identifier.getName().equals(name);
    }

    private static boolean isBounded(ExpressionTree condition, Name counter, boolean rising) {
        if (!(condition instanceof BinaryTree binary)) {
            return false;
        }
        if (binary.getKind() == Tree.Kind.CONDITIONAL_AND) {
            return isBounded(binary.getLeftOperand(), counter, rising)
                    || isBounded(binary.getRightOperand(), counter, rising);
        }
        boolean against = rising ? binary.getKind() == Tree.Kind.LESS_THAN
                : binary.getKind() == Tree.Kind.GREATER_THAN || binary.getKind() == Tree.Kind.GREATER_THAN_EQUAL;
        return against && isNamed(binary.getLeftOperand(), counter);
    }

    private static boolean isChanged(Tree body, Name counter) {
        boolean[] changed = {false};
        new TreeScanner<Void, Void>() {
            @Override
            public Void visitAssignment(AssignmentTree tree, Void unused) {
                changed[0] |= isNamed(tree.getVariable(), counter);
                return super.visitAssignment(tree, unused);
            }

            @Override
            public Void visitCompoundAssignment(CompoundAssignmentTree tree, Void unused) {
                changed[0] |= isNamed(tree.getVariable(), counter);
                return super.visitCompoundAssignment(tree, unused);
            }

            @Override
            public Void visitUnary(UnaryTree tree, Void unused) {
                boolean changes = tree.getKind() == Tree.Kind.POSTFIX_INCREMENT
                        || tree.getKind() == Tree.Kind.POSTFIX_DECREMENT
                        || tree.getKind() == Tree.Kind.PREFIX_INCREMENT
                        || tree.getKind() == Tree.Kind.PREFIX_DECREMENT;
                changed[0] |= changes && isNamed(tree.getExpression(), counter);
                return super.visitUnary(tree, unused);
            }
        }.scan(body, null);
        return changed[0];
    }

    @Override
    public Void visitThrow(ThrowTree tree, Void unused) {
        never("rule 6", tree);
        return null;
    }

    @Override
    public Void visitTry(TryTree tree, Void unused) {
        never("rule 6", tree);
        return null;
    }

    @Override
    public Void visitCatch(CatchTree tree, Void unused) {
        never("rule 6", tree);
        return null;
    }

    @Override
    public Void visitSynchronized(SynchronizedTree tree, Void unused) {
        never("rule 6", tree);
        return null;
    }

    @Override
    public Void visitAssert(AssertTree tree, Void unused) {
        never("rule 6", tree);
        return null;
    }

    @Override
    public Void visitLambdaExpression(LambdaExpressionTree tree, Void unused) {
        never("rule 2", tree);
        return null;
    }

    @Override
    public Void visitMemberReference(MemberReferenceTree tree, Void unused) {
        never("rule 2", tree);
        return null;
    }

    private void depthOfCalls() {
        due.holds("methods were seen", callees.size() > 60);
        for (Element method : callees.keySet()) {
            int depth = depth(method, new ArrayList<>());
            due.holds("rule 11: calls from " + method + " go " + depth + " deep", depth <= MOST_DEEP);
        }
    }

    /** How many methods stand open at most, the library's too. */
    private int depth(Element method, List<Element> open) {
        if (open.contains(method)) {
            due.holds("rule 8: " + method + " calls itself", false);
            return 0;
        }
        if (depths.containsKey(method)) {
            return depths.get(method);
        }
        open.add(method);
        int deepest = 0;
        for (Element callee : callees.getOrDefault(method, Set.of())) {
            deepest = Math.max(deepest, depth(callee, open));
        }
        open.remove(method);
        depths.put(method, deepest + 1);
        return deepest + 1;
    }
}

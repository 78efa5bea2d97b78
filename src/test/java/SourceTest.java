import com.sun.source.tree.ArrayAccessTree;
import com.sun.source.tree.AssignmentTree;
import com.sun.source.tree.BinaryTree;
import com.sun.source.tree.CompoundAssignmentTree;
import com.sun.source.tree.DoWhileLoopTree;
import com.sun.source.tree.ExpressionTree;
import com.sun.source.tree.ForLoopTree;
import com.sun.source.tree.MethodInvocationTree;
import com.sun.source.tree.MethodTree;
import com.sun.source.tree.NewArrayTree;
import com.sun.source.tree.Tree;
import com.sun.source.tree.TypeCastTree;
import com.sun.source.tree.UnaryTree;
import com.sun.source.tree.VariableTree;
import com.sun.source.tree.WhileLoopTree;
import com.sun.source.util.JavacTask;
import com.sun.source.util.TreePath;
import com.sun.source.util.TreePathScanner;
import com.sun.source.util.Trees;
import java.io.IOException;
import java.nio.file.Path;
import java.util.ArrayList;
import java.util.HashMap;
import java.util.LinkedHashSet;
import java.util.List;
import java.util.Map;
import java.util.Set;
import javax.lang.model.element.Element;
import javax.lang.model.element.ElementKind;
import javax.lang.model.element.Modifier;
import javax.lang.model.type.TypeKind;
import javax.lang.model.type.TypeMirror;
import javax.tools.JavaCompiler;
import javax.tools.StandardJavaFileManager;
import javax.tools.ToolProvider;

/** What of ../shared/LANGUAGE.md the compiler's tree of the class shows: types, library calls, loops, how deep calls go. */
public final class SourceTest extends TreePathScanner<Void, Void> {
    private static final Path SOURCE = Path.of("src/main/java/LaneOrder.java");
    private static final int DEEPEST = 8;
    private static final Set<String> LIBRARY = Set.of(
        "java.lang.Object.<init>", "java.lang.Math.max", "java.lang.Integer.bitCount", "java.lang.System.arraycopy", "java.lang.String.indexOf");
    private static final Set<String> TYPES = Set.of("int", "long", "boolean", "int[]", "java.lang.String");
    private static final Set<String> CONSTANTS = Set.of("int", "long", "boolean", "char", "java.lang.String");

    private final Check check = new Check();
    private final Trees trees;
    private final Map<Element, Set<Element>> calls = new HashMap<>();
    private Element inside;

    private SourceTest(Trees trees) {
        this.trees = trees;
    }

    public static void main(String[] args) throws IOException {
        JavaCompiler compiler = ToolProvider.getSystemJavaCompiler();
        try (StandardJavaFileManager files = compiler.getStandardFileManager(null, null, null)) {
            JavacTask task = (JavacTask) compiler.getTask(null, files, null, List.of("-proc:none"), null, files.getJavaFileObjects(SOURCE));
            SourceTest test = new SourceTest(Trees.instance(task));
            var units = task.parse();
            task.analyze();
            test.scan(units, null);
            test.depths();
            test.check.end("SourceTest");
        }
    }

    private static boolean isOwn(String type) {
        return type.equals("LaneOrder") || type.startsWith("LaneOrder.");
    }

    private TypeMirror typeOf(Tree part) {
        return trees.getTypeMirror(new TreePath(getCurrentPath(), part));
    }

    private boolean isText(ExpressionTree part) {
        return typeOf(part).toString().equals("java.lang.String");
    }

    private void ruledOut(String rule, Tree what) {
        check.part(rule);
        check.fail(what.toString());
    }

    @Override
    public Void visitMethod(MethodTree method, Void none) {
        inside = trees.getElement(getCurrentPath());
        calls.put(inside, new LinkedHashSet<>());
        super.visitMethod(method, none);
        inside = null;
        return null;
    }

    @Override
    public Void visitMethodInvocation(MethodInvocationTree call, Void none) {
        Element called = trees.getElement(new TreePath(getCurrentPath(), call.getMethodSelect()));
        String owner = called.getEnclosingElement().toString();
        check.part("rule 4");
        check.same("listed: " + call, isOwn(owner) || LIBRARY.contains(owner + "." + called.getSimpleName()), true);
        if (isOwn(owner) && inside != null) {
            calls.get(inside).add(called);
        }
        return super.visitMethodInvocation(call, none);
    }

    @Override
    public Void visitVariable(VariableTree variable, Void none) {
        Element element = trees.getElement(getCurrentPath());
        String type = element.asType().toString();
        check.part("rule 3");
        check.same("a type that the class may use: " + variable, TYPES.contains(type) || isOwn(type), true);
        if (element.getKind() == ElementKind.FIELD && element.getModifiers().contains(Modifier.STATIC)) {
            boolean writtenOut = variable.getInitializer() instanceof NewArrayTree row && row.getInitializers() != null;
            check.part("rule 5");
            check.same("final: " + variable, element.getModifiers().contains(Modifier.FINAL), true);
            check.same("a constant: " + variable, CONSTANTS.contains(type) || type.equals("int[]") && writtenOut, true);
        }
        return super.visitVariable(variable, none);
    }

    /** What is set, by whatever sign: no place of a row that is a constant. */
    private void noConstantRow(ExpressionTree set) {
        if (set instanceof ArrayAccessTree place) {
            TreePath row = new TreePath(new TreePath(getCurrentPath(), place), place.getExpression());
            check.part("rule 5");
            check.same("a constant row is never changed: " + set, trees.getElement(row).getModifiers().contains(Modifier.STATIC), false);
        }
    }

    @Override
    public Void visitAssignment(AssignmentTree assignment, Void none) {
        noConstantRow(assignment.getVariable());
        return super.visitAssignment(assignment, none);
    }

    @Override
    public Void visitCompoundAssignment(CompoundAssignmentTree assignment, Void none) {
        noConstantRow(assignment.getVariable());
        return super.visitCompoundAssignment(assignment, none);
    }

    @Override
    public Void visitUnary(UnaryTree unary, Void none) {
        noConstantRow(unary.getExpression());
        return super.visitUnary(unary, none);
    }

    @Override
    public Void visitBinary(BinaryTree binary, Void none) {
        boolean texts = isText(binary.getLeftOperand()) || isText(binary.getRightOperand());
        if (texts) {
            ruledOut("rules 6 and 10, texts are not joined or compared by a sign", binary);
        }
        return super.visitBinary(binary, none);
    }

    @Override
    public Void visitTypeCast(TypeCastTree cast, Void none) {
        TypeKind kind = typeOf(cast.getType()).getKind();
        if (!kind.isPrimitive()) {
            ruledOut("rule 6, no cast but of numbers is needed", cast);
        }
        return super.visitTypeCast(cast, none);
    }

    @Override
    public Void visitForLoop(ForLoopTree loop, Void none) {
        check.part("rule 9");
        check.same("has an end: " + loop, loop.getCondition() != null && !loop.getUpdate().isEmpty(), true);
        return super.visitForLoop(loop, none);
    }

    @Override
    public Void visitWhileLoop(WhileLoopTree loop, Void none) {
        ruledOut("rule 9, a counter shows the end of every loop", loop);
        return super.visitWhileLoop(loop, none);
    }

    @Override
    public Void visitDoWhileLoop(DoWhileLoopTree loop, Void none) {
        ruledOut("rule 9, a counter shows the end of every loop", loop);
        return super.visitDoWhileLoop(loop, none);
    }

    private void depths() {
        check.part("rules 8 and 11");
        for (Element method : calls.keySet()) {
            if (method.getModifiers().contains(Modifier.PUBLIC)) {
                follow(method, new ArrayList<>());
            }
        }
    }

    /** One method alone calls itself: each cut of a part is read by readPart, with its depth as an argument. */
    private void follow(Element method, List<Element> open) {
        if (open.contains(method)) {
            boolean mayCallItself = method.getSimpleName().contentEquals("readPart") && open.get(open.size() - 1) == method;
            check.same("no recursion: " + open + " and " + method, mayCallItself, true);
            return;
        }
        open.add(method);
        check.same("not too deep: " + open, open.size() <= DEEPEST, true);
        for (Element called : calls.getOrDefault(method, Set.of())) {
            follow(called, open);
        }
        open.remove(open.size() - 1);
    }
}

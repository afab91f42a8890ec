import com.sun.source.tree.ArrayAccessTree;
import com.sun.source.tree.AssertTree;
import com.sun.source.tree.BinaryTree;
import com.sun.source.tree.CatchTree;
import com.sun.source.tree.ClassTree;
import com.sun.source.tree.CompilationUnitTree;
import com.sun.source.tree.CompoundAssignmentTree;
import com.sun.source.tree.ExpressionTree;
import com.sun.source.tree.ImportTree;
import com.sun.source.tree.LambdaExpressionTree;
import com.sun.source.tree.LiteralTree;
import com.sun.source.tree.MemberReferenceTree;
import com.sun.source.tree.MethodInvocationTree;
import com.sun.source.tree.MethodTree;
import com.sun.source.tree.NewArrayTree;
import com.sun.source.tree.NewClassTree;
import com.sun.source.tree.SynchronizedTree;
import com.sun.source.tree.ThrowTree;
import com.sun.source.tree.Tree;
import com.sun.source.tree.TryTree;
import com.sun.source.tree.TypeCastTree;
import com.sun.source.util.JavacTask;
import com.sun.source.util.TreePath;
import com.sun.source.util.TreePathScanner;
import com.sun.source.util.Trees;
import java.io.IOException;
import java.nio.file.Path;
import java.util.List;
import java.util.Map;
import java.util.Set;
import java.util.TreeMap;
import java.util.TreeSet;
import javax.lang.model.element.Element;
import javax.lang.model.element.ElementKind;
import javax.lang.model.element.Modifier;
import javax.lang.model.element.VariableElement;
import javax.lang.model.type.TypeMirror;
import javax.tools.JavaCompiler;
import javax.tools.StandardJavaFileManager;
import javax.tools.ToolProvider;

/**
 * The program keeps to those rules of LANGUAGE.md that the compiler's tree of it shows. Where a rule leaves more
 * room than the program needs, what it needs is asked: no recursion, no catch, objects in constructors alone.
 */
public final class RulesTest {
    private static final Path SOURCE = Path.of("src/main/java/AisleScheduler.java");
    private static final Set<String> EXCEPTIONS = Set.of("IllegalStateException", "IllegalArgumentException",
        "IndexOutOfBoundsException", "ArithmeticException", "UnsupportedOperationException",
        "NoSuchElementException");
    private static final Set<String> LIBRARY = Set.of("Math.max", "Math.min", "Object.<init>");
    /** These look at the index before they use it. */
    private static final Set<String> ROW_METHODS = Set.of("AisleScheduler.at", "AisleScheduler.put",
        "AisleScheduler.maskAt", "AisleScheduler.join", "AisleScheduler.fill", "AisleScheduler.fillMasks",
        "AisleScheduler.copyRow", "World.<init>", "World.robotOf", "World.taskOf");
    private static final int MOST_LINES = 60;
    private static final int MOST_PARAMETERS = 7;
    private static final int MOST_CLASSES = 12;
    private static final int MOST_FIELDS = 20;
    private static final int MOST_DEEP = 8;

    private static int wrong = 0;

    private static void demand(boolean isRight, String fault) {
        if (!isRight) {
            wrong++;
            System.out.println(fault);
        }
    }

    /** Goes through the tree of the program; notes which method calls which ones. */
    private static final class Scanner extends TreePathScanner<Void, Void> {
        final Map<String, Set<String>> calls = new TreeMap<>();
        int classes;
        private final Trees trees;
        private final CompilationUnitTree unit;
        private String method = "";

        Scanner(Trees trees, CompilationUnitTree unit) {
            this.trees = trees;
            this.unit = unit;
        }

        private long line(Tree tree) {
            return unit.getLineMap().getLineNumber(trees.getSourcePositions().getStartPosition(unit, tree));
        }

        private long lastLine(Tree tree) {
            return unit.getLineMap().getLineNumber(trees.getSourcePositions().getEndPosition(unit, tree));
        }

        private void rule(int number, boolean isKept, Tree tree) {
            demand(isKept, "line " + line(tree) + ", rule " + number + ": " + tree.toString().lines().findFirst().get());
        }

        private static String nameOf(Element called) {
            return called.getEnclosingElement().getSimpleName() + "." + called.getSimpleName();
        }

        private boolean isOwn(Element e) {
            Element outermost = e;
            while (outermost.getEnclosingElement().getKind() != ElementKind.PACKAGE) {
                outermost = outermost.getEnclosingElement();
            }
            return outermost.getSimpleName().contentEquals("AisleScheduler");
        }

        private boolean isAtMakingTime() {
            return method.isEmpty() || method.endsWith("<init>");
        }

        private boolean isThrown() {
            return getCurrentPath().getParentPath().getLeaf() instanceof ThrowTree;
        }

        /** Whether it is a number that the compiler knows and that is not 0. */
        private boolean isDivisor(ExpressionTree tree) {
            TypeMirror type = trees.getTypeMirror(new TreePath(getCurrentPath(), tree));
            if (type.getKind() == javax.lang.model.type.TypeKind.FLOAT
                    || type.getKind() == javax.lang.model.type.TypeKind.DOUBLE) {
                return true;
            }
            Element e = trees.getElement(new TreePath(getCurrentPath(), tree));
            Object value = e instanceof VariableElement ? ((VariableElement) e).getConstantValue() : null;
            value = tree instanceof LiteralTree ? ((LiteralTree) tree).getValue() : value;
            return value instanceof Number && ((Number) value).longValue() != 0;
        }

        @Override
        public Void visitImport(ImportTree tree, Void none) {
            rule(4, tree.getQualifiedIdentifier().toString().equals("java.util.NoSuchElementException"), tree);
            return super.visitImport(tree, none);
        }

        @Override
        public Void visitClass(ClassTree tree, Void none) {
            classes++;
            Element e = trees.getElement(getCurrentPath());
            rule(2, getCurrentPath().getParentPath().getLeaf() == unit
                    || tree.getModifiers().getFlags().contains(Modifier.STATIC), tree);
            int fields = 0;
            for (Element member : e.getEnclosedElements()) {
                if (member.getKind() == ElementKind.FIELD) {
                    boolean isStatic = member.getModifiers().contains(Modifier.STATIC);
                    fields += isStatic ? 0 : 1;
                    rule(5, !isStatic || ((VariableElement) member).getConstantValue() != null, tree);
                }
            }
            rule(11, fields <= MOST_FIELDS, tree);
            return super.visitClass(tree, none);
        }

        @Override
        public Void visitMethod(MethodTree tree, Void none) {
            method = nameOf(trees.getElement(getCurrentPath()));
            calls.putIfAbsent(method, new TreeSet<>());
            rule(11, tree.getParameters().size() <= MOST_PARAMETERS, tree);
            rule(11, lastLine(tree) - line(tree) < MOST_LINES, tree);
            super.visitMethod(tree, none);
            method = "";
            return null;
        }

        @Override
        public Void visitMethodInvocation(MethodInvocationTree tree, Void none) {
            Element called = trees.getElement(getCurrentPath());
            rule(4, isOwn(called) || LIBRARY.contains(nameOf(called)), tree);
            calls.computeIfAbsent(method, m -> new TreeSet<>()).add(nameOf(called));
            return super.visitMethodInvocation(tree, none);
        }

        @Override
        public Void visitNewClass(NewClassTree tree, Void none) {
            Element made = trees.getElement(getCurrentPath());
            rule(12, isThrown() || isOwn(made) && isAtMakingTime(), tree);
            rule(2, tree.getClassBody() == null, tree);
            calls.computeIfAbsent(method, m -> new TreeSet<>()).add(nameOf(made));
            return super.visitNewClass(tree, none);
        }

        @Override
        public Void visitNewArray(NewArrayTree tree, Void none) {
            rule(12, isAtMakingTime(), tree);
            return super.visitNewArray(tree, none);
        }

        @Override
        public Void visitThrow(ThrowTree tree, Void none) {
            ExpressionTree thrown = tree.getExpression();
            rule(6, thrown instanceof NewClassTree && !isAtMakingTime(), tree);
            if (thrown instanceof NewClassTree) {
                NewClassTree made = (NewClassTree) thrown;
                rule(6, EXCEPTIONS.contains(made.getIdentifier().toString()), tree);
                for (ExpressionTree text : made.getArguments()) {
                    rule(6, text instanceof LiteralTree, tree);
                }
            }
            return super.visitThrow(tree, none);
        }

        @Override
        public Void visitArrayAccess(ArrayAccessTree tree, Void none) {
            rule(7, ROW_METHODS.contains(method), tree);
            return super.visitArrayAccess(tree, none);
        }

        @Override
        public Void visitBinary(BinaryTree tree, Void none) {
            boolean isDivision = tree.getKind() == Tree.Kind.DIVIDE || tree.getKind() == Tree.Kind.REMAINDER;
            rule(7, !isDivision || isDivisor(tree.getRightOperand()), tree);
            boolean isText = trees.getTypeMirror(getCurrentPath()).toString().equals("java.lang.String");
            rule(10, !isText, tree);
            return super.visitBinary(tree, none);
        }

        @Override
        public Void visitCompoundAssignment(CompoundAssignmentTree tree, Void none) {
            rule(7, tree.getKind() != Tree.Kind.DIVIDE_ASSIGNMENT && tree.getKind() != Tree.Kind.REMAINDER_ASSIGNMENT,
                    tree);
            return super.visitCompoundAssignment(tree, none);
        }

        @Override
        public Void visitTypeCast(TypeCastTree tree, Void none) {
            rule(7, trees.getTypeMirror(getCurrentPath()).getKind().isPrimitive(), tree);
            return super.visitTypeCast(tree, none);
        }

        @Override
        public Void visitLambdaExpression(LambdaExpressionTree tree, Void none) {
            rule(2, false, tree);
            return super.visitLambdaExpression(tree, none);
        }

        @Override
        public Void visitMemberReference(MemberReferenceTree tree, Void none) {
            rule(2, false, tree);
            return super.visitMemberReference(tree, none);
        }

        @Override
        public Void visitTry(TryTree tree, Void none) {
            rule(6, false, tree);
            return super.visitTry(tree, none);
        }

        @Override
        public Void visitCatch(CatchTree tree, Void none) {
            rule(6, false, tree);
            return super.visitCatch(tree, none);
        }

        @Override
        public Void visitSynchronized(SynchronizedTree tree, Void none) {
            rule(6, false, tree);
            return super.visitSynchronized(tree, none);
        }

        @Override
        public Void visitAssert(AssertTree tree, Void none) {
            rule(6, false, tree);
            return super.visitAssert(tree, none);
        }
    }

    /** How deep the calls of a method go, itself counted; too deep where one comes back to it. */
    private static int depth(Map<String, Set<String>> calls, String method, int open) {
        if (open > MOST_DEEP) {
            return 1;
        }
        int deepest = 0;
        for (String called : calls.getOrDefault(method, Set.of())) {
            if (calls.containsKey(called)) {
                deepest = Math.max(deepest, depth(calls, called, open + 1));
            }
        }
        return 1 + deepest;
    }

    public static void main(String[] args) throws IOException {
        JavaCompiler compiler = ToolProvider.getSystemJavaCompiler();
        try (StandardJavaFileManager files = compiler.getStandardFileManager(null, null, null)) {
            JavacTask task = (JavacTask) compiler.getTask(null, files, null, List.of("-encoding", "UTF-8"), null,
                files.getJavaFileObjects(SOURCE));
            CompilationUnitTree unit = task.parse().iterator().next();
            task.analyze();
            Scanner scanner = new Scanner(Trees.instance(task), unit);
            scanner.scan(unit, null);
            demand(unit.getPackage() == null, "rule 1: there is a package line");
            demand(unit.getTypeDecls().size() == 1, "rule 1: there is more than one class");
            demand(scanner.classes <= MOST_CLASSES, "rule 11: there are too many classes");
            for (String method : scanner.calls.keySet()) {
                int deep = depth(scanner.calls, method, 1);
                demand(deep <= MOST_DEEP, "rule 11: the calls of " + method + " go deeper than " + MOST_DEEP);
            }
            int methods = scanner.calls.size();
            System.out.println(methods + " methods, " + (wrong == 0 ? "all keep to the rules" : wrong + " faults"));
        }
        if (wrong != 0) {
            System.exit(1);
        }
    }
}

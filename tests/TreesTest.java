import com.sun.source.tree.BinaryTree;
import com.sun.source.tree.ClassTree;
import com.sun.source.tree.CompilationUnitTree;
import com.sun.source.tree.CompoundAssignmentTree;
import com.sun.source.tree.ExpressionTree;
import com.sun.source.tree.ForLoopTree;
import com.sun.source.tree.LineMap;
import com.sun.source.tree.MethodInvocationTree;
import com.sun.source.tree.MethodTree;
import com.sun.source.tree.NewArrayTree;
import com.sun.source.tree.NewClassTree;
import com.sun.source.tree.Tree;
import com.sun.source.tree.VariableTree;
import com.sun.source.tree.WhileLoopTree;
import com.sun.source.tree.DoWhileLoopTree;
import com.sun.source.util.JavacTask;
import com.sun.source.util.SourcePositions;
import com.sun.source.util.TreePath;
import com.sun.source.util.TreePathScanner;
import com.sun.source.util.Trees;
import java.io.File;
import java.util.ArrayList;
import java.util.EnumSet;
import java.util.HashSet;
import java.util.List;
import java.util.Map;
import java.util.Set;
import java.util.TreeMap;
import java.util.TreeSet;
import javax.lang.model.element.Element;
import javax.lang.model.element.ElementKind;
import javax.lang.model.element.ExecutableElement;
import javax.lang.model.element.Modifier;
import javax.lang.model.type.TypeMirror;
import javax.tools.JavaCompiler;
import javax.tools.StandardJavaFileManager;
import javax.tools.ToolProvider;

/** Rules of LANGUAGE.md that the tree of the source tells: what is used, called, made, and how deep calls go. */
public final class TreesTest {
    private static final Check CHECK = new Check("TreesTest");

    private static final Set<Tree.Kind> LEFT_OUT = EnumSet.of(Tree.Kind.LAMBDA_EXPRESSION, Tree.Kind.MEMBER_REFERENCE,
            Tree.Kind.THROW, Tree.Kind.TRY, Tree.Kind.CATCH, Tree.Kind.SYNCHRONIZED, Tree.Kind.ASSERT, Tree.Kind.IMPORT,
            Tree.Kind.PACKAGE, Tree.Kind.ANNOTATION, Tree.Kind.SWITCH_EXPRESSION);
    /* Fewer than the language lists: what the class uses of it. */
    private static final Set<String> LIBRARY = Set.of("String.length", "String.charAt", "Integer.bitCount",
            "Math.min", "Math.max", "Object.<init>");
    private static final Set<String> CONSTANTS = Set.of("int", "long", "boolean", "char", "java.lang.String",
            "int[]", "long[]", "char[]", "byte[]");
    private static final int MOST_DEEP = 8;
    private static final int MOST_LINES = 60;

    private static final Map<ExecutableElement, Set<ExecutableElement>> CALLED = new TreeMap<>(java.util.Comparator.comparing(TreesTest::name));

    public static void main(String[] args) throws Exception {
        JavaCompiler compiler = ToolProvider.getSystemJavaCompiler();
        try (StandardJavaFileManager files = compiler.getStandardFileManager(null, null, null)) {
            JavacTask task = (JavacTask) compiler.getTask(null, files, null, List.of("-proc:none"), null,
                    files.getJavaFileObjects(new File("src/main/java/NextBest.java")));
            CompilationUnitTree unit = task.parse().iterator().next();
            task.analyze();
            new Look(Trees.instance(task), unit).scan(unit, null);
        }
        recursion();
        depth();
        CHECK.finish();
    }

    private static void no(String fault, boolean seen) {
        CHECK.due(fault, seen ? 1 : 0, 0);
    }

    private static String name(ExecutableElement method) {
        return method.getEnclosingElement().getSimpleName() + "." + method;
    }

    // ---- calls

    private static void recursion() {
        for (ExecutableElement method : CALLED.keySet()) {
            Set<ExecutableElement> reached = new HashSet<>();
            List<ExecutableElement> ahead = new ArrayList<>(CALLED.get(method));
            ahead.remove(method);
            while (!ahead.isEmpty()) {
                ExecutableElement next = ahead.remove(0);
                if (reached.add(next) && CALLED.containsKey(next)) {
                    ahead.addAll(CALLED.get(next));
                }
            }
            no("methods that call one another: " + name(method), reached.contains(method));
            boolean calm = method.getModifiers().containsAll(Set.of(Modifier.PRIVATE, Modifier.STATIC));
            no("a method that calls itself and is not private and static: " + name(method),
                    CALLED.get(method).contains(method) && !calm);
        }
    }

    private static void depth() {
        for (ExecutableElement method : CALLED.keySet()) {
            if (method.getModifiers().contains(Modifier.PUBLIC)) {
                List<String> deepest = deepest(method, 0);
                no("calls go too deep: " + deepest, deepest.size() > MOST_DEEP);
            }
        }
    }

    private static List<String> deepest(ExecutableElement method, int above) {
        List<String> found = new ArrayList<>();
        for (ExecutableElement called : CALLED.getOrDefault(method, Set.of())) {
            if (called != method && above <= 4 * MOST_DEEP) {
                List<String> below = deepest(called, above + 1);
                found = below.size() > found.size() ? below : found;
            }
        }
        found.add(0, name(method));
        return found;
    }

    // ---- the tree

    private static final class Look extends TreePathScanner<Void, Void> {
        private final Trees trees;
        private final CompilationUnitTree unit;
        private final LineMap lines;
        private final SourcePositions positions;

        Look(Trees trees, CompilationUnitTree unit) {
            this.trees = trees;
            this.unit = unit;
            this.lines = unit.getLineMap();
            this.positions = trees.getSourcePositions();
        }

        private long line(Tree tree) {
            return lines.getLineNumber(positions.getStartPosition(unit, tree));
        }

        private String type(Tree tree) {
            TypeMirror type = trees.getTypeMirror(new TreePath(getCurrentPath(), tree));
            return type == null ? "" : type.toString();
        }

        private MethodTree around() {
            for (TreePath path = getCurrentPath(); path != null; path = path.getParentPath()) {
                if (path.getLeaf() instanceof MethodTree) {
                    return (MethodTree) path.getLeaf();
                }
            }
            return null;
        }

        @Override
        public Void scan(Tree tree, Void nothing) {
            if (tree != null) {
                no("a " + tree.getKind() + " in line " + line(tree), LEFT_OUT.contains(tree.getKind()));
            }
            return super.scan(tree, nothing);
        }

        @Override
        public Void visitClass(ClassTree tree, Void nothing) {
            Element element = trees.getElement(getCurrentPath());
            boolean outer = element.getEnclosingElement().getKind() == ElementKind.PACKAGE;
            no("a class that is not static, local or without a name in line " + line(tree), around() != null
                    || !outer && !element.getModifiers().contains(Modifier.STATIC));
            return super.visitClass(tree, nothing);
        }

        @Override
        public Void visitMethod(MethodTree tree, Void nothing) {
            ExecutableElement method = (ExecutableElement) trees.getElement(getCurrentPath());
            CALLED.putIfAbsent(method, new TreeSet<>(java.util.Comparator.comparing(TreesTest::name)));
            long last = lines.getLineNumber(Math.max(0, positions.getEndPosition(unit, tree)));
            no("a long method: " + name(method), last - line(tree) >= MOST_LINES);
            no("many parameters: " + name(method), tree.getParameters().size() > 7);
            return super.visitMethod(tree, nothing);
        }

        @Override
        public Void visitVariable(VariableTree tree, Void nothing) {
            Element element = trees.getElement(getCurrentPath());
            boolean still = element.getKind() == ElementKind.FIELD && element.getModifiers().contains(Modifier.STATIC);
            no("a static field that is no constant: " + element, still
                    && !(element.getModifiers().contains(Modifier.FINAL) && CONSTANTS.contains(element.asType().toString())));
            return super.visitVariable(tree, nothing);
        }

        @Override
        public Void visitMethodInvocation(MethodInvocationTree tree, Void nothing) {
            call((ExecutableElement) trees.getElement(new TreePath(getCurrentPath(), tree.getMethodSelect())), tree);
            return super.visitMethodInvocation(tree, nothing);
        }

        @Override
        public Void visitNewClass(NewClassTree tree, Void nothing) {
            MethodTree method = around();
            no("an object made outside of a constructor in line " + line(tree), method != null && method.getReturnType() != null);
            no("a class without a name in line " + line(tree), tree.getClassBody() != null);
            return super.visitNewClass(tree, nothing);
        }

        @Override
        public Void visitNewArray(NewArrayTree tree, Void nothing) {
            MethodTree method = around();
            no("an array made outside of a constructor in line " + line(tree), method != null && method.getReturnType() != null);
            return super.visitNewArray(tree, nothing);
        }

        private void call(ExecutableElement called, Tree tree) {
            String owner = called.getEnclosingElement().toString();
            boolean own = owner.equals("NextBest") || owner.startsWith("NextBest.");
            String plain = called.getEnclosingElement().getSimpleName() + "." + called.getSimpleName();
            no("a call of the library that is not listed: " + plain + " in line " + line(tree), !own && !LIBRARY.contains(plain));
            MethodTree from = around();
            if (own && from != null) {
                for (TreePath path = getCurrentPath(); path != null; path = path.getParentPath()) {
                    if (path.getLeaf() == from) {
                        CALLED.get((ExecutableElement) trees.getElement(path)).add(called);
                    }
                }
            }
        }

        @Override
        public Void visitBinary(BinaryTree tree, Void nothing) {
            boolean text = type(tree.getLeftOperand()).equals("java.lang.String") || type(tree.getRightOperand()).equals("java.lang.String");
            no("texts compared or joined in line " + line(tree), text);
            return super.visitBinary(tree, nothing);
        }

        @Override
        public Void visitCompoundAssignment(CompoundAssignmentTree tree, Void nothing) {
            no("texts joined in line " + line(tree), type(tree.getVariable()).equals("java.lang.String"));
            return super.visitCompoundAssignment(tree, nothing);
        }

        private void bounded(ExpressionTree condition, Tree loop) {
            String text = condition == null ? "" : condition.toString();
            no("a loop that tells no bound in line " + line(loop), !text.contains("<") && !text.contains(">"));
        }

        @Override
        public Void visitForLoop(ForLoopTree tree, Void nothing) {
            bounded(tree.getCondition(), tree);
            return super.visitForLoop(tree, nothing);
        }

        @Override
        public Void visitWhileLoop(WhileLoopTree tree, Void nothing) {
            bounded(tree.getCondition(), tree);
            return super.visitWhileLoop(tree, nothing);
        }

        @Override
        public Void visitDoWhileLoop(DoWhileLoopTree tree, Void nothing) {
            bounded(tree.getCondition(), tree);
            return super.visitDoWhileLoop(tree, nothing);
        }
    }
}

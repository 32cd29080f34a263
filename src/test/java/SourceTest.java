import com.sun.source.tree.BinaryTree;
import com.sun.source.tree.ClassTree;
import com.sun.source.tree.CompilationUnitTree;
import com.sun.source.tree.CompoundAssignmentTree;
import com.sun.source.tree.ExpressionTree;
import com.sun.source.tree.ForLoopTree;
import com.sun.source.tree.IdentifierTree;
import com.sun.source.tree.MethodInvocationTree;
import com.sun.source.tree.MethodTree;
import com.sun.source.tree.NewArrayTree;
import com.sun.source.tree.NewClassTree;
import com.sun.source.tree.Tree;
import com.sun.source.tree.UnaryTree;
import com.sun.source.tree.VariableTree;
import com.sun.source.tree.WhileLoopTree;
import com.sun.source.util.JavacTask;
import com.sun.source.util.TreePath;
import com.sun.source.util.TreePathScanner;
import com.sun.source.util.Trees;
import java.io.File;
import java.util.HashSet;
import java.util.List;
import java.util.Map;
import java.util.Set;
import java.util.TreeMap;
import java.util.TreeSet;
import javax.lang.model.element.Element;
import javax.lang.model.element.Modifier;
import javax.lang.model.element.TypeElement;
import javax.lang.model.type.TypeMirror;
import javax.tools.JavaCompiler;
import javax.tools.StandardJavaFileManager;
import javax.tools.ToolProvider;

/** LANGUAGE.md's rules that need the source as the compiler reads it: kinds of code, types, library, calls, loops. */
public final class SourceTest extends TreePathScanner<Void, Void> {
    private static final Due due = new Due();

    /** Rules 2, 6 and 10, and kinds of code that no rule names. */
    private static final Set<Tree.Kind> BANNED = Set.of(Tree.Kind.THROW, Tree.Kind.TRY, Tree.Kind.CATCH,
            Tree.Kind.SYNCHRONIZED, Tree.Kind.ASSERT, Tree.Kind.LAMBDA_EXPRESSION, Tree.Kind.MEMBER_REFERENCE,
            Tree.Kind.ANNOTATION, Tree.Kind.SWITCH_EXPRESSION, Tree.Kind.YIELD, Tree.Kind.UNBOUNDED_WILDCARD);
    /** Rule 4, what of it the class uses. */
    private static final Set<String> LIBRARY = Set.of("String.length", "String.charAt", "Integer.bitCount", "Math.min",
            "Math.max", "System.arraycopy", "Arrays.fill");
    /** Rule 3, what of it the class uses, beside its own classes. */
    private static final Set<String> TYPES = Set.of("int", "long", "boolean", "int[]", "byte[]", "java.lang.String",
            "WaterTown.Law[]");
    /** Rule 7: the one divisor that is no constant, with the test that stands ahead of it. */
    private static final String GUARDED = "l == 0 ? 0 : Math.min(LAST_BED_DAY, (c + l - 1) / l)";

    private final Trees trees;
    private final Map<String, Set<String>> calls = new TreeMap<>();
    private int loops;
    private int divisors;

    private SourceTest(Trees trees) {
        this.trees = trees;
    }

    public static void main(String[] args) throws Exception {
        JavaCompiler compiler = ToolProvider.getSystemJavaCompiler();
        try (StandardJavaFileManager files = compiler.getStandardFileManager(null, null, null)) {
            JavacTask task = (JavacTask) compiler.getTask(null, files, null, List.of("--release", "17", "-proc:none"), null,
                    files.getJavaFileObjects(new File("src/main/java/WaterTown.java")));
            Iterable<? extends CompilationUnitTree> units = task.parse();
            task.analyze();
            SourceTest test = new SourceTest(Trees.instance(task));
            for (CompilationUnitTree unit : units) {
                test.scan(unit, null);
            }
            test.depths();
            due.is("loops were seen", test.loops > 20 ? 1 : 0, 1);
            due.is("divisors were seen", test.divisors > 5 ? 1 : 0, 1);
            due.end();
        }
    }

    private void fault(String rule, Tree tree) {
        due.part(rule);
        due.is("'" + tree + "'", 1, 0);
    }

    private Element element(Tree tree) {
        return trees.getElement(new TreePath(getCurrentPath(), tree));
    }

    @Override
    public Void scan(Tree tree, Void none) {
        if (tree != null && BANNED.contains(tree.getKind())) fault("rules 2, 6, 10", tree);
        return super.scan(tree, none);
    }

    private Tree enclosing(Set<Tree.Kind> kinds) {
        TreePath path = getCurrentPath().getParentPath();
        while (path != null && !kinds.contains(path.getLeaf().getKind())) {
            path = path.getParentPath();
        }
        return path == null ? null : path.getLeaf();
    }

    private static final Set<Tree.Kind> CLASSES = Set.of(Tree.Kind.CLASS, Tree.Kind.ENUM, Tree.Kind.INTERFACE, Tree.Kind.RECORD);

    @Override
    public Void visitClass(ClassTree tree, Void none) {
        due.part("rule 2");
        Tree parent = getCurrentPath().getParentPath().getLeaf();
        boolean outer = parent.getKind() == Tree.Kind.COMPILATION_UNIT;
        due.is(tree.getSimpleName() + " stands in the class alone", outer || CLASSES.contains(parent.getKind()) ? 1 : 0, 1);
        Set<Modifier> modifiers = tree.getModifiers().getFlags();
        due.is(tree.getSimpleName() + " is static", outer || modifiers.contains(Modifier.STATIC) ? 1 : 0, 1);
        return super.visitClass(tree, none);
    }

    @Override
    public Void visitVariable(VariableTree tree, Void none) {
        due.part("rule 3");
        TypeMirror type = trees.getTypeMirror(getCurrentPath());
        String name = String.valueOf(type);
        due.is(tree.getName() + " is of type " + name, TYPES.contains(name) || name.matches("WaterTown\\.[A-Z][a-z]+") ? 1 : 0, 1);
        Set<Modifier> modifiers = tree.getModifiers().getFlags();
        if (modifiers.contains(Modifier.STATIC)) {
            due.part("rule 5");
            due.is(tree.getName() + " is final", modifiers.contains(Modifier.FINAL) ? 1 : 0, 1);
            due.is(tree.getName() + " is a number", name.equals("int") ? 1 : 0, 1);
        }
        return super.visitVariable(tree, none);
    }

    private static String nameOf(Element method) {
        return ((TypeElement) method.getEnclosingElement()).getSimpleName() + "." + method.getSimpleName();
    }

    @Override
    public Void visitMethod(MethodTree tree, Void none) {
        calls.putIfAbsent(nameOf(trees.getElement(getCurrentPath())), new TreeSet<>());
        return super.visitMethod(tree, none);
    }

    @Override
    public Void visitMethodInvocation(MethodInvocationTree tree, Void none) {
        Element method = element(tree.getMethodSelect());
        Tree caller = enclosing(Set.of(Tree.Kind.METHOD));
        if (method != null && caller != null && !method.getSimpleName().contentEquals("<init>")) {
            String name = nameOf(method);
            Element home = trees.getElement(trees.getPath(getCurrentPath().getCompilationUnit(), caller));
            calls.computeIfAbsent(nameOf(home), key -> new TreeSet<>()).add(name);
            if (!isOwn(method)) {
                due.part("rule 4");
                due.is(name, LIBRARY.contains(name) ? 1 : 0, 1);
            }
        }
        return super.visitMethodInvocation(tree, none);
    }

    private static boolean isOwn(Element member) {
        return member.getEnclosingElement().toString().startsWith("WaterTown");
    }

    @Override
    public Void visitNewClass(NewClassTree tree, Void none) {
        due.part("rule 4");
        due.is("new " + tree.getIdentifier(), isOwn(element(tree)) ? 1 : 0, 1);
        due.is("'" + tree + "' has a body", tree.getClassBody() == null ? 0 : 1, 0);
        madeAtFirst(tree);
        return super.visitNewClass(tree, none);
    }

    @Override
    public Void visitNewArray(NewArrayTree tree, Void none) {
        madeAtFirst(tree);
        return super.visitNewArray(tree, none);
    }

    /** Rule 12, more narrowly: nothing is made but with the town itself. */
    private void madeAtFirst(Tree tree) {
        MethodTree home = (MethodTree) enclosing(Set.of(Tree.Kind.METHOD));
        due.part("rule 12");
        due.is("'" + tree + "' is made behind the constructor",
                home == null || home.getName().contentEquals("<init>") ? 0 : 1, 0);
    }

    @Override
    public Void visitBinary(BinaryTree tree, Void none) {
        if (tree.getKind() == Tree.Kind.DIVIDE || tree.getKind() == Tree.Kind.REMAINDER) divides(tree, tree.getRightOperand());
        TypeMirror type = trees.getTypeMirror(getCurrentPath());
        if (String.valueOf(type).equals("java.lang.String")) fault("rule 10", tree);
        return super.visitBinary(tree, none);
    }

    @Override
    public Void visitCompoundAssignment(CompoundAssignmentTree tree, Void none) {
        if (tree.getKind() == Tree.Kind.DIVIDE_ASSIGNMENT || tree.getKind() == Tree.Kind.REMAINDER_ASSIGNMENT) {
            divides(tree, tree.getExpression());
        }
        return super.visitCompoundAssignment(tree, none);
    }

    private void divides(Tree tree, ExpressionTree by) {
        divisors++;
        boolean number = by.toString().matches("[1-9][0-9]*|HOURS_OF_DAY");
        Tree around = enclosing(Set.of(Tree.Kind.CONDITIONAL_EXPRESSION));
        due.part("rule 7");
        due.is("'" + tree + "' divides by what is not looked at",
                number || around != null && around.toString().equals(GUARDED) ? 0 : 1, 0);
    }

    @Override
    public Void visitForLoop(ForLoopTree tree, Void none) {
        ends(tree, tree.getCondition());
        return super.visitForLoop(tree, none);
    }

    @Override
    public Void visitWhileLoop(WhileLoopTree tree, Void none) {
        ends(tree, tree.getCondition());
        return super.visitWhileLoop(tree, none);
    }

    /** Rule 9: the condition holds a counter against a bound, and the loop's own lines count it, one way alone. */
    private void ends(Tree loop, ExpressionTree condition) {
        loops++;
        Steps steps = new Steps();
        steps.scan(loop, null);
        String end = String.valueOf(condition).replaceAll("^\\((.*)\\)$", "$1");
        boolean bounded = false;
        for (String part : end.split(" && ")) {
            for (String up : steps.up) {
                bounded |= !steps.down.contains(up) && part.matches(up + " <=? .*");
            }
            for (String down : steps.down) {
                bounded |= !steps.up.contains(down) && part.matches(down + " >=? .*");
            }
        }
        due.part("rule 9");
        due.is("the loop's end is in its lines: " + loop, bounded && !end.contains("||") ? 1 : 0, 1);
    }

    /** What is counted up or down within a loop. */
    private static final class Steps extends TreePathScanner<Void, Void> {
        final Set<String> up = new HashSet<>();
        final Set<String> down = new HashSet<>();

        @Override
        public Void scan(Tree tree, Void none) {
            if (tree != null && getCurrentPath() == null && !(tree instanceof CompilationUnitTree)) {
                tree.accept(this, none);
                return null;
            }
            return super.scan(tree, none);
        }

        @Override
        public Void visitUnary(UnaryTree tree, Void none) {
            if (tree.getExpression() instanceof IdentifierTree name) {
                if (tree.getKind() == Tree.Kind.POSTFIX_INCREMENT) up.add(name.toString());
                if (tree.getKind() == Tree.Kind.POSTFIX_DECREMENT) down.add(name.toString());
            }
            return super.visitUnary(tree, none);
        }
    }

    /** Rules 8 and 11: no recursion, and calls at most eight deep, the library's own among them. */
    private void depths() {
        due.part("rules 8, 11");
        int deepest = 0;
        for (String method : calls.keySet()) {
            int depth = depth(method, new HashSet<>());
            due.is(method + " goes " + depth + " deep", depth <= 8 ? 1 : 0, 1);
            deepest = Math.max(deepest, depth);
        }
        due.is("calls were followed", deepest > 3 ? 1 : 0, 1);
    }

    private int depth(String method, Set<String> open) {
        if (!open.add(method)) return 1000;
        int most = 0;
        for (String next : calls.getOrDefault(method, Set.of())) {
            most = Math.max(most, depth(next, open));
        }
        open.remove(method);
        return most + 1;
    }
}

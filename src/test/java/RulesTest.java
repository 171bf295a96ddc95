import com.sun.source.tree.AssignmentTree;
import com.sun.source.tree.BinaryTree;
import com.sun.source.tree.ClassTree;
import com.sun.source.tree.CompilationUnitTree;
import com.sun.source.tree.CompoundAssignmentTree;
import com.sun.source.tree.ExpressionTree;
import com.sun.source.tree.ForLoopTree;
import com.sun.source.tree.IdentifierTree;
import com.sun.source.tree.MethodInvocationTree;
import com.sun.source.tree.MethodTree;
import com.sun.source.tree.NewArrayTree;
import com.sun.source.tree.NewClassTree;
import com.sun.source.tree.ParenthesizedTree;
import com.sun.source.tree.Tree;
import com.sun.source.tree.UnaryTree;
import com.sun.source.tree.VariableTree;
import com.sun.source.tree.WhileLoopTree;
import com.sun.source.util.JavacTask;
import com.sun.source.util.TreePath;
import com.sun.source.util.TreePathScanner;
import com.sun.source.util.TreeScanner;
import com.sun.source.util.Trees;
import java.io.File;
import java.util.HashMap;
import java.util.HashSet;
import java.util.List;
import java.util.Map;
import java.util.Set;
import javax.lang.model.element.Element;
import javax.lang.model.element.ElementKind;
import javax.lang.model.element.ExecutableElement;
import javax.lang.model.element.Modifier;
import javax.lang.model.element.VariableElement;
import javax.lang.model.type.ArrayType;
import javax.lang.model.type.DeclaredType;
import javax.lang.model.type.TypeKind;
import javax.lang.model.type.TypeMirror;
import javax.tools.JavaCompiler;
import javax.tools.StandardJavaFileManager;
import javax.tools.ToolProvider;

/**
 * The rules of LANGUAGE.md that can be seen in the source, as the compiler itself reads it. Where the class
 * uses less than a rule allows, the test allows no more than the class uses.
 */
public final class RulesTest {
    private static final File SOURCE = new File("src/main/java/SmallSpaces.java");
    private static final Due DUE = new Due("RulesTest");
    private static final Set<String> LIBRARY = Set.of("java.lang.System.arraycopy", "java.util.Arrays.fill");
    private static final Set<String> FUNCTIONS = Set.of("java.lang.Integer", "java.lang.Long", "java.lang.Math");
    private static final Map<Tree.Kind, String> FORBIDDEN = Map.of(
        Tree.Kind.LAMBDA_EXPRESSION, "rule 2: no lambda",
        Tree.Kind.MEMBER_REFERENCE, "rule 2: no method reference",
        Tree.Kind.PACKAGE, "no package line",
        Tree.Kind.THROW, "rule 6: no throw",
        Tree.Kind.TRY, "rule 6: no try",
        Tree.Kind.SYNCHRONIZED, "rule 6: no synchronized",
        Tree.Kind.ASSERT, "rule 6: no assert",
        Tree.Kind.TYPE_CAST, "rule 6: no cast (none is needed)",
        Tree.Kind.ENHANCED_FOR_LOOP, "rule 9: no loop but by a counter",
        Tree.Kind.DO_WHILE_LOOP, "rule 9: no loop but by a counter");
    private static final int DEEPEST = 8;
    private static final int MOST_CLASSES = 12;
    private static final int MOST_LINES = 60;
    private static final int MOST_PARAMETERS = 7;

    public static void main(String[] args) throws Exception {
        JavaCompiler compiler = ToolProvider.getSystemJavaCompiler();
        try (StandardJavaFileManager files = compiler.getStandardFileManager(null, null, null)) {
            JavacTask task = (JavacTask) compiler.getTask(null, files, null, List.of("-proc:none"), null,
                files.getJavaFileObjects(SOURCE));
            CompilationUnitTree unit = task.parse().iterator().next();
            task.analyze();
            Reader reader = new Reader(Trees.instance(task), unit);
            reader.scan(unit, null);
            reader.calls.judge();
            DUE.holds("rule 3: characters 0 to 255 alone",
                unit.getSourceFile().getCharContent(true).chars().allMatch(c -> c < 256));
            DUE.holds("rule 11: " + reader.classes + " classes", reader.classes <= MOST_CLASSES);
        }
        DUE.end();
    }

    /** Which method calls which of the class's own. */
    private static final class Calls {
        private final Map<Element, Set<Element>> made = new HashMap<>();

        void add(Element from, Element to) {
            made.computeIfAbsent(from, key -> new HashSet<>()).add(to);
        }

        void judge() {
            for (Element method : made.keySet()) {
                int depth = depth(method, new HashSet<>());
                DUE.holds("rules 8 and 11: " + method + " goes " + depth + " deep", depth <= DEEPEST);
            }
        }

        /** The calls open at once, this one among them; a recursion counts as deeper than any rule allows. */
        private int depth(Element method, Set<Element> open) {
            if (!open.add(method)) {
                return 1000;
            }
            int deepest = 0;
            for (Element next : made.getOrDefault(method, Set.of())) {
                deepest = Math.max(deepest, depth(next, open));
            }
            open.remove(method);
            return deepest + 1;
        }
    }

    private static final class Reader extends TreePathScanner<Void, Void> {
        private final Trees trees;
        private final CompilationUnitTree unit;
        private final Calls calls = new Calls();
        private int classes;

        Reader(Trees trees, CompilationUnitTree unit) {
            this.trees = trees;
            this.unit = unit;
        }

        private Element element() {
            return trees.getElement(getCurrentPath());
        }

        private boolean isOwn(Element element) {
            TreePath path = trees.getPath(element);
            return path != null && path.getCompilationUnit() == unit;
        }

        private String where(Tree tree) {
            return ", line " + unit.getLineMap().getLineNumber(trees.getSourcePositions().getStartPosition(unit, tree));
        }

        /** The method that holds what is read now, or the class where a field is made. */
        private Element around() {
            TreePath path = getCurrentPath();
            while (path.getLeaf().getKind() != Tree.Kind.METHOD && path.getLeaf().getKind() != Tree.Kind.CLASS) {
                path = path.getParentPath();
            }
            return trees.getElement(path);
        }

        @Override
        public Void scan(Tree tree, Void nothing) {
            if (tree != null && FORBIDDEN.containsKey(tree.getKind())) {
                DUE.holds(FORBIDDEN.get(tree.getKind()) + where(tree), false);
            }
            return super.scan(tree, nothing);
        }

        @Override
        public Void visitClass(ClassTree tree, Void nothing) {
            classes++;
            Set<Modifier> flags = tree.getModifiers().getFlags();
            Tree.Kind parent = getCurrentPath().getParentPath().getLeaf().getKind();
            DUE.holds("rule 2: a class inside is static" + where(tree), parent == Tree.Kind.COMPILATION_UNIT
                || parent == Tree.Kind.CLASS && flags.contains(Modifier.STATIC));
            DUE.holds("rule 12: no class can override another's method" + where(tree), flags.contains(Modifier.FINAL));
            for (Tree member : tree.getMembers()) {
                DUE.holds("rule 5: no initialiser block" + where(tree), member.getKind() != Tree.Kind.BLOCK);
            }
            return super.visitClass(tree, nothing);
        }

        @Override
        public Void visitVariable(VariableTree tree, Void nothing) {
            VariableElement variable = (VariableElement) element();
            DUE.holds("rule 3: the type of " + variable + where(tree), isAllowed(variable.asType()));
            if (variable.getKind() == ElementKind.FIELD && variable.getModifiers().contains(Modifier.STATIC)) {
                DUE.holds("rule 5: a constant" + where(tree), variable.getConstantValue() != null);
            }
            return super.visitVariable(tree, nothing);
        }

        private boolean isAllowed(TypeMirror type) {
            if (type.getKind() == TypeKind.ARRAY) {
                TypeMirror part = ((ArrayType) type).getComponentType();
                return part.getKind() != TypeKind.ARRAY && isAllowed(part);
            }
            return type.getKind().isPrimitive() || type.getKind() == TypeKind.VOID
                || type.getKind() == TypeKind.DECLARED && isOwn(((DeclaredType) type).asElement());
        }

        @Override
        public Void visitMethod(MethodTree tree, Void nothing) {
            ExecutableElement method = (ExecutableElement) element();
            DUE.holds("rule 3: the answer of " + method, isAllowed(method.getReturnType()));
            DUE.holds("rule 6: no throws at " + method, tree.getThrows().isEmpty());
            DUE.holds("rule 11: parameters of " + method, tree.getParameters().size() <= MOST_PARAMETERS);
            long lines = tree.toString().lines().filter(line -> !line.isBlank()).count();
            DUE.holds("rule 11: " + method + " has " + lines + " lines", lines <= MOST_LINES);
            return super.visitMethod(tree, nothing);
        }

        @Override
        public Void visitMethodInvocation(MethodInvocationTree tree, Void nothing) {
            Element called = element();
            if (isOwn(called)) {
                calls.add(around(), called);
            } else if (called.getKind() != ElementKind.CONSTRUCTOR) {
                String owner = called.getEnclosingElement().toString();
                String name = owner + "." + called.getSimpleName();
                DUE.holds("rule 4: " + name + where(tree), LIBRARY.contains(name)
                    || FUNCTIONS.contains(owner) && called.getModifiers().contains(Modifier.STATIC)
                    && !name.endsWith("Exact"));
            }
            return super.visitMethodInvocation(tree, nothing);
        }

        @Override
        public Void visitNewClass(NewClassTree tree, Void nothing) {
            DUE.holds("rule 4: an own class is made" + where(tree), tree.getClassBody() == null && isOwn(element()));
            isMadeInConstructor(tree);
            calls.add(around(), element());
            return super.visitNewClass(tree, nothing);
        }

        @Override
        public Void visitNewArray(NewArrayTree tree, Void nothing) {
            isMadeInConstructor(tree);
            return super.visitNewArray(tree, nothing);
        }

        private void isMadeInConstructor(Tree tree) {
            ElementKind kind = around().getKind();
            DUE.holds("rule 12: made in a constructor" + where(tree),
                kind == ElementKind.CONSTRUCTOR || kind == ElementKind.CLASS);
        }

        @Override
        public Void visitForLoop(ForLoopTree tree, Void nothing) {
            boolean counts = tree.getInitializer().size() == 1 && tree.getUpdate().size() == 1
                && tree.getInitializer().get(0) instanceof VariableTree counter
                && isCompared(tree.getCondition(), counter.getName().toString())
                && changes(tree.getUpdate().get(0), counter.getName().toString()) == 1
                && changes(tree.getStatement(), counter.getName().toString()) == 0;
            DUE.holds("rule 9: a counter that the loop's head alone steps" + where(tree), counts);
            return super.visitForLoop(tree, nothing);
        }

        @Override
        public Void visitWhileLoop(WhileLoopTree tree, Void nothing) {
            Set<String> names = new HashSet<>();
            new TreeScanner<Void, Void>() {
                @Override
                public Void visitIdentifier(IdentifierTree name, Void none) {
                    names.add(name.getName().toString());
                    return none;
                }
            }.scan(tree.getCondition(), null);
            DUE.holds("rule 9: a counter against a bound" + where(tree), names.stream().anyMatch(name ->
                isCompared(tree.getCondition(), name) && changes(tree.getStatement(), name) == 1));
            return super.visitWhileLoop(tree, nothing);
        }
    }

    /** Whether a condition, or a part of it that must hold too, compares the counter with a bound. */
    private static boolean isCompared(ExpressionTree condition, String counter) {
        if (condition instanceof ParenthesizedTree wrapped) {
            return isCompared(wrapped.getExpression(), counter);
        }
        if (!(condition instanceof BinaryTree pair)) {
            return false;
        }
        return switch (pair.getKind()) {
            case CONDITIONAL_AND -> isCompared(pair.getLeftOperand(), counter)
                || isCompared(pair.getRightOperand(), counter);
            case LESS_THAN, LESS_THAN_EQUAL, GREATER_THAN, GREATER_THAN_EQUAL ->
                pair.getLeftOperand().toString().equals(counter);
            default -> false;
        };
    }

    /** In how many places a variable is changed. */
    private static int changes(Tree tree, String name) {
        int[] count = {0};
        new TreeScanner<Void, Void>() {
            private void count(ExpressionTree changed) {
                count[0] += changed.toString().equals(name) ? 1 : 0;
            }

            @Override
            public Void visitUnary(UnaryTree unary, Void nothing) {
                switch (unary.getKind()) {
                    case PREFIX_INCREMENT, PREFIX_DECREMENT, POSTFIX_INCREMENT, POSTFIX_DECREMENT ->
                        count(unary.getExpression());
                    default -> { }
                }
                return super.visitUnary(unary, nothing);
            }

            @Override
            public Void visitAssignment(AssignmentTree set, Void nothing) {
                count(set.getVariable());
                return super.visitAssignment(set, nothing);
            }

            @Override
            public Void visitCompoundAssignment(CompoundAssignmentTree set, Void nothing) {
                count(set.getVariable());
                return super.visitCompoundAssignment(set, nothing);
            }
        }.scan(tree, null);
        return count[0];
    }
}

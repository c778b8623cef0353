import com.sun.source.tree.AssignmentTree;
import com.sun.source.tree.BinaryTree;
import com.sun.source.tree.BlockTree;
import com.sun.source.tree.ClassTree;
import com.sun.source.tree.CompilationUnitTree;
import com.sun.source.tree.CompoundAssignmentTree;
import com.sun.source.tree.DoWhileLoopTree;
import com.sun.source.tree.ExpressionStatementTree;
import com.sun.source.tree.ExpressionTree;
import com.sun.source.tree.ForLoopTree;
import com.sun.source.tree.IdentifierTree;
import com.sun.source.tree.MethodInvocationTree;
import com.sun.source.tree.MethodTree;
import com.sun.source.tree.NewArrayTree;
import com.sun.source.tree.NewClassTree;
import com.sun.source.tree.ParenthesizedTree;
import com.sun.source.tree.StatementTree;
import com.sun.source.tree.Tree;
import com.sun.source.tree.UnaryTree;
import com.sun.source.tree.VariableTree;
import com.sun.source.tree.WhileLoopTree;
import com.sun.source.util.JavacTask;
import com.sun.source.util.TreePath;
import com.sun.source.util.TreePathScanner;
import com.sun.source.util.TreeScanner;
import com.sun.source.util.Trees;
import java.io.IOException;
import java.nio.file.Path;
import java.util.EnumSet;
import java.util.HashMap;
import java.util.HashSet;
import java.util.List;
import java.util.Map;
import java.util.Set;
import java.util.TreeSet;
import javax.lang.model.element.Element;
import javax.lang.model.element.ElementKind;
import javax.lang.model.element.ExecutableElement;
import javax.lang.model.element.Modifier;
import javax.tools.JavaCompiler;
import javax.tools.StandardJavaFileManager;
import javax.tools.ToolProvider;

/** Rules of LANGUAGE.md, seen in the tree that the compiler makes of the source: each loop, call, type and division. */
public final class LanguageTree {
    private static final Path SOURCE = Path.of("src/main/java/WordFolder.java");
    private static final Set<String> LIBRARY = Set.of("java.lang.Math.min", "java.lang.Math.max", "java.lang.System.arraycopy");
    private static final Set<String> PLAIN_TYPES = Set.of("int", "boolean", "int[]", "boolean[]");
    private static final int DEEPEST = 8;
    private static final Set<Tree.Kind> LEFT_OUT = EnumSet.of(Tree.Kind.THROW, Tree.Kind.TRY, Tree.Kind.CATCH,
        Tree.Kind.SYNCHRONIZED, Tree.Kind.ASSERT, Tree.Kind.LAMBDA_EXPRESSION, Tree.Kind.MEMBER_REFERENCE,
        Tree.Kind.INSTANCE_OF, Tree.Kind.TYPE_CAST, Tree.Kind.IMPORT, Tree.Kind.PACKAGE, Tree.Kind.SWITCH_EXPRESSION,
        Tree.Kind.NULL_LITERAL, Tree.Kind.STRING_LITERAL, Tree.Kind.DOUBLE_LITERAL, Tree.Kind.FLOAT_LITERAL,
        Tree.Kind.ENUM, Tree.Kind.INTERFACE, Tree.Kind.ANNOTATION);
    private static final Check c = new Check();

    private final Trees trees;
    private final CompilationUnitTree unit;
    private final Map<Element, Set<Element>> calls = new HashMap<>();

    private LanguageTree(Trees trees, CompilationUnitTree unit) {
        this.trees = trees;
        this.unit = unit;
    }

    public static void main(String[] args) throws IOException {
        JavaCompiler compiler = ToolProvider.getSystemJavaCompiler();
        try (StandardJavaFileManager files = compiler.getStandardFileManager(null, null, null)) {
            JavacTask task = (JavacTask) compiler.getTask(null, files, null, List.of("-proc:none"), null,
                files.getJavaFileObjects(SOURCE));
            CompilationUnitTree unit = task.parse().iterator().next();
            task.analyze();
            new LanguageTree(Trees.instance(task), unit).look();
        }
        c.end();
    }

    private void look() {
        new Looker().scan(unit, null);
        c.about("rules 8, 11");
        int deepest = 0;
        for (Element method : calls.keySet()) {
            deepest = Math.max(deepest, depthOf(method, new HashSet<>()));
        }
        c.due("calls go at most eight deep (" + deepest + ")", deepest <= DEEPEST, true);
    }

    /** How deep calls go from a method; one that comes to itself again is told. */
    private int depthOf(Element method, Set<Element> open) {
        c.due(method + " does not call itself", open.add(method), true);
        int deepest = 0;
        if (open.size() <= 2 * DEEPEST) {
            for (Element called : calls.getOrDefault(method, Set.of())) {
                deepest = Math.max(deepest, depthOf(called, open));
            }
        }
        open.remove(method);
        return deepest + 1;
    }

    private long lineOf(Tree tree) {
        return unit.getLineMap().getLineNumber(trees.getSourcePositions().getStartPosition(unit, tree));
    }

    private long lastLineOf(Tree tree) {
        return unit.getLineMap().getLineNumber(trees.getSourcePositions().getEndPosition(unit, tree));
    }

    private final class Looker extends TreePathScanner<Void, Void> {
        @Override
        public Void scan(Tree tree, Void none) {
            if (tree != null) {
                c.about("rules 2 to 6");
                c.due("line " + lineOf(tree) + " holds " + tree.getKind(), LEFT_OUT.contains(tree.getKind()), false);
            }
            return super.scan(tree, none);
        }

        @Override
        public Void visitClass(ClassTree tree, Void none) {
            c.about("rules 1, 2, 11");
            Element one = element();
            boolean isOuter = one.getEnclosingElement().getKind() == ElementKind.PACKAGE;
            c.due(one + " stands in the file or in WordFolder",
                isOuter || getCurrentPath().getParentPath().getParentPath().getLeaf() == unit, true);
            c.due(one + " is static", isOuter || one.getModifiers().contains(Modifier.STATIC), true);
            int fields = 0;
            for (Tree member : tree.getMembers()) {
                c.due(one + " has no block of its own", member instanceof BlockTree, false);
                boolean isField = member instanceof VariableTree
                    && !((VariableTree) member).getModifiers().getFlags().contains(Modifier.STATIC);
                fields += isField ? 1 : 0;
            }
            c.due(one + " has at most twenty fields", fields <= 20, true);
            return super.visitClass(tree, none);
        }

        @Override
        public Void visitMethod(MethodTree tree, Void none) {
            c.about("rule 11");
            c.due(tree.getName() + " takes at most seven", tree.getParameters().size() <= 7, true);
            c.due(tree.getName() + " is short", lastLineOf(tree) - lineOf(tree) < 60, true);
            calls.computeIfAbsent(element(), e -> new HashSet<>());
            return super.visitMethod(tree, none);
        }

        @Override
        public Void visitVariable(VariableTree tree, Void none) {
            c.about("rules 3, 5");
            String type = trees.getTypeMirror(getCurrentPath()).toString();
            c.due(tree.getName() + " is of a plain type: " + type, PLAIN_TYPES.contains(type) || type.startsWith("WordFolder."), true);
            Set<Modifier> flags = tree.getModifiers().getFlags();
            c.due(tree.getName() + " stays, if it is static",
                !flags.contains(Modifier.STATIC) || flags.contains(Modifier.FINAL) && type.equals("int"), true);
            return super.visitVariable(tree, none);
        }

        @Override
        public Void visitMethodInvocation(MethodInvocationTree tree, Void none) {
            ExecutableElement called = (ExecutableElement) trees.getElement(new TreePath(getCurrentPath(), tree.getMethodSelect()));
            String owner = called.getEnclosingElement().toString();
            if (owner.startsWith("WordFolder")) {
                calls.computeIfAbsent(caller(), e -> new HashSet<>()).add(called);
            } else if (called.getKind() == ElementKind.METHOD) {
                c.about("rule 4");
                String name = owner + "." + called.getSimpleName();
                c.due("line " + lineOf(tree) + " calls " + name, LIBRARY.contains(name), true);
            }
            return super.visitMethodInvocation(tree, none);
        }

        @Override
        public Void visitNewClass(NewClassTree tree, Void none) {
            madeOnce(tree);
            return super.visitNewClass(tree, none);
        }

        @Override
        public Void visitNewArray(NewArrayTree tree, Void none) {
            madeOnce(tree);
            return super.visitNewArray(tree, none);
        }

        private void madeOnce(Tree tree) {
            c.about("rule 12");
            Element caller = caller();
            c.due("line " + lineOf(tree) + " makes an object in a constructor or for a field",
                caller == null || caller.getKind() == ElementKind.CONSTRUCTOR, true);
        }

        @Override
        public Void visitBinary(BinaryTree tree, Void none) {
            if (tree.getKind() == Tree.Kind.DIVIDE || tree.getKind() == Tree.Kind.REMAINDER) {
                seeDivisor(tree.getRightOperand());
            }
            return super.visitBinary(tree, none);
        }

        @Override
        public Void visitCompoundAssignment(CompoundAssignmentTree tree, Void none) {
            if (tree.getKind() == Tree.Kind.DIVIDE_ASSIGNMENT || tree.getKind() == Tree.Kind.REMAINDER_ASSIGNMENT) {
                seeDivisor(tree.getExpression());
            }
            return super.visitCompoundAssignment(tree, none);
        }

        /** A divisor is a number other than 0, a constant, or a loop around it asks whether it is above 0. */
        private void seeDivisor(ExpressionTree divisor) {
            c.about("rule 7");
            String text = divisor.toString();
            boolean isSafe = text.matches("[1-9]\\d*|[A-Z_]+");
            for (TreePath p = getCurrentPath(); p != null && !isSafe; p = p.getParentPath()) {
                isSafe = p.getLeaf() instanceof ForLoopTree
                    && String.valueOf(((ForLoopTree) p.getLeaf()).getCondition()).contains(text + " > 0");
            }
            c.due("line " + lineOf(divisor) + " looks at its divisor " + text, isSafe, true);
        }

        @Override
        public Void visitForLoop(ForLoopTree tree, Void none) {
            Set<String> counted = new TreeSet<>();
            for (ExpressionStatementTree update : tree.getUpdate()) {
                addCounted(update.getExpression(), counted);
            }
            hasEnd(tree, tree.getCondition(), counted, assigned(tree.getStatement()));
            return super.visitForLoop(tree, none);
        }

        @Override
        public Void visitWhileLoop(WhileLoopTree tree, Void none) {
            Set<String> counted = new TreeSet<>();
            Set<String> changed = new TreeSet<>();
            StatementTree body = tree.getStatement();
            for (StatementTree one : body instanceof BlockTree ? ((BlockTree) body).getStatements() : List.of(body)) {
                ExpressionTree update = one instanceof ExpressionStatementTree ? ((ExpressionStatementTree) one).getExpression() : null;
                if (update == null || !addCounted(update, counted)) {
                    changed.addAll(assigned(one));
                }
            }
            hasEnd(tree, tree.getCondition(), counted, changed);
            return super.visitWhileLoop(tree, none);
        }

        @Override
        public Void visitDoWhileLoop(DoWhileLoopTree tree, Void none) {
            hasEnd(tree, tree.getCondition(), Set.of(), Set.of());
            return super.visitDoWhileLoop(tree, none);
        }

        private boolean addCounted(ExpressionTree update, Set<String> counted) {
            boolean isCount = EnumSet.of(Tree.Kind.POSTFIX_INCREMENT, Tree.Kind.POSTFIX_DECREMENT,
                Tree.Kind.PREFIX_INCREMENT, Tree.Kind.PREFIX_DECREMENT).contains(update.getKind());
            if (isCount) {
                counted.add(((UnaryTree) update).getExpression().toString());
            }
            return isCount;
        }

        /** A loop's lines show an end: what it counts, and nothing else there changes, is set against a bound. */
        private void hasEnd(Tree loop, ExpressionTree condition, Set<String> counted, Set<String> changed) {
            c.about("rule 9");
            Set<String> bounded = new TreeSet<>();
            addBounded(condition, bounded);
            bounded.retainAll(counted);
            bounded.removeAll(changed);
            c.due("the loop of line " + lineOf(loop) + " has a counter against a bound", !bounded.isEmpty(), true);
        }

        /** The names that some part of a condition, each of which must hold, sets against a bound. */
        private void addBounded(ExpressionTree condition, Set<String> bounded) {
            if (condition instanceof ParenthesizedTree) {
                addBounded(((ParenthesizedTree) condition).getExpression(), bounded);
            } else if (condition != null && condition.getKind() == Tree.Kind.CONDITIONAL_AND) {
                addBounded(((BinaryTree) condition).getLeftOperand(), bounded);
                addBounded(((BinaryTree) condition).getRightOperand(), bounded);
            } else if (condition != null && EnumSet.of(Tree.Kind.LESS_THAN, Tree.Kind.LESS_THAN_EQUAL,
                Tree.Kind.GREATER_THAN, Tree.Kind.GREATER_THAN_EQUAL).contains(condition.getKind())) {
                bounded.add(((BinaryTree) condition).getLeftOperand().toString());
            }
        }

        private Set<String> assigned(Tree body) {
            Set<String> names = new TreeSet<>();
            new TreeScanner<Void, Void>() {
                @Override
                public Void visitAssignment(AssignmentTree tree, Void none) {
                    names.add(tree.getVariable().toString());
                    return super.visitAssignment(tree, none);
                }

                @Override
                public Void visitCompoundAssignment(CompoundAssignmentTree tree, Void none) {
                    names.add(tree.getVariable().toString());
                    return super.visitCompoundAssignment(tree, none);
                }

                @Override
                public Void visitUnary(UnaryTree tree, Void none) {
                    if (tree.getExpression() instanceof IdentifierTree) {
                        names.add(tree.getExpression().toString());
                    }
                    return super.visitUnary(tree, none);
                }
            }.scan(body, null);
            return names;
        }

        private Element element() {
            return trees.getElement(getCurrentPath());
        }

        /** The method or constructor that is looked at, or null. */
        private Element caller() {
            for (TreePath p = getCurrentPath(); p != null; p = p.getParentPath()) {
                if (p.getLeaf() instanceof MethodTree) {
                    return trees.getElement(p);
                }
            }
            return null;
        }
    }
}

import com.sun.source.tree.BinaryTree;
import com.sun.source.tree.BlockTree;
import com.sun.source.tree.ClassTree;
import com.sun.source.tree.CompilationUnitTree;
import com.sun.source.tree.CompoundAssignmentTree;
import com.sun.source.tree.DoWhileLoopTree;
import com.sun.source.tree.EnhancedForLoopTree;
import com.sun.source.tree.ExpressionTree;
import com.sun.source.tree.ForLoopTree;
import com.sun.source.tree.IdentifierTree;
import com.sun.source.tree.MethodInvocationTree;
import com.sun.source.tree.MethodTree;
import com.sun.source.tree.NewClassTree;
import com.sun.source.tree.ParenthesizedTree;
import com.sun.source.tree.Tree;
import com.sun.source.tree.TypeCastTree;
import com.sun.source.tree.UnaryTree;
import com.sun.source.tree.VariableTree;
import com.sun.source.tree.WhileLoopTree;
import com.sun.source.util.JavacTask;
import com.sun.source.util.TreePath;
import com.sun.source.util.TreePathScanner;
import com.sun.source.util.TreeScanner;
import com.sun.source.util.Trees;
import java.io.IOException;
import java.nio.file.Path;
import java.nio.file.Paths;
import java.util.ArrayList;
import java.util.Arrays;
import java.util.EnumSet;
import java.util.HashMap;
import java.util.HashSet;
import java.util.LinkedHashMap;
import java.util.LinkedHashSet;
import java.util.List;
import java.util.Map;
import java.util.Set;
import javax.lang.model.element.Element;
import javax.lang.model.element.Modifier;
import javax.lang.model.element.VariableElement;
import javax.tools.JavaCompiler;
import javax.tools.StandardJavaFileManager;
import javax.tools.ToolProvider;

/**
 * The rules of ../shared/LANGUAGE.md that the tree of the source tells: no construct that is left out, no
 * library call but the listed ones, no recursion, calls at most eight deep (the library's too), an end for
 * each loop, and no divisor that could be 0.
 */
public final class RuleTrees {
    private static final Set<Tree.Kind> LEFT_OUT = EnumSet.of(Tree.Kind.THROW, Tree.Kind.TRY, Tree.Kind.CATCH,
        Tree.Kind.SYNCHRONIZED, Tree.Kind.ASSERT, Tree.Kind.LAMBDA_EXPRESSION, Tree.Kind.MEMBER_REFERENCE,
        Tree.Kind.ANNOTATION, Tree.Kind.SWITCH_EXPRESSION, Tree.Kind.INSTANCE_OF);
    private static final Set<String> LIBRARY = new HashSet<>(Arrays.asList("java.lang.String.length()",
        "java.lang.String.charAt(int)", "java.lang.StringBuilder.append(char)",
        "java.lang.StringBuilder.append(int)", "java.lang.StringBuilder.charAt(int)",
        "java.lang.StringBuilder.length()", "java.lang.StringBuilder.setLength(int)",
        "java.lang.AbstractStringBuilder.charAt(int)", "java.lang.AbstractStringBuilder.length()",
        "java.lang.AbstractStringBuilder.setLength(int)", "java.lang.Math.min(int,int)",
        "java.lang.Math.max(int,int)", "java.lang.Math.abs(int)",
        "java.lang.System.arraycopy(java.lang.Object,int,java.lang.Object,int,int)",
        "java.util.Arrays.fill(int[],int)", "java.util.Arrays.copyOf(int[],int)"));
    private static final Set<String> TYPES = new HashSet<>(Arrays.asList("int", "long", "boolean", "int[]",
        "boolean[]", "java.lang.String", "java.lang.StringBuilder"));
    private static final int DEEPEST = 8;

    private static int wrong = 0;
    private static int looked = 0;
    private static CompilationUnitTree unit;
    private static Trees trees;
    private static final Map<String, Set<String>> CALLS = new LinkedHashMap<>();

    public static void main(String[] args) throws IOException {
        Path source = Paths.get(args.length > 0 ? args[0] : ".").resolve("src/main/java/ConnectorRouter.java");
        JavaCompiler compiler = ToolProvider.getSystemJavaCompiler();
        StandardJavaFileManager files = compiler.getStandardFileManager(null, null, null);
        JavacTask task = (JavacTask) compiler.getTask(null, files, null, Arrays.asList("-proc:none"), null,
            files.getJavaFileObjects(source));
        unit = task.parse().iterator().next();
        task.analyze();
        trees = Trees.instance(task);
        new Looking().scan(unit, null);
        int deepest = depthOfCalls();
        must(CALLS.size() > 100, "the tree has been read: " + CALLS.size() + " methods call others");
        must(looked > 50, "loops and divisors have been looked at: " + looked);
        must(deepest <= DEEPEST, "the calls go at most eight deep, not " + deepest);
        System.out.println(wrong == 0 ? "the rules are kept; the calls go " + deepest + " deep" : wrong + " broken");
        if (wrong != 0) {
            System.exit(1);
        }
    }

    private static void must(boolean holds, String what) {
        if (!holds) {
            wrong++;
            System.out.println("broken: " + what);
        }
    }

    private static void mustAt(Tree tree, boolean holds, String what) {
        long at = trees.getSourcePositions().getStartPosition(unit, tree);
        must(holds, "line " + unit.getLineMap().getLineNumber(Math.max(at, 0)) + ": " + what);
    }

    // ---- calls

    /** The length of the longest chain of calls, each method counted once; a circle is told as a fault. */
    private static int depthOfCalls() {
        Map<String, Integer> known = new HashMap<>();
        int deepest = 0;
        for (String method : CALLS.keySet()) {
            deepest = Math.max(deepest, depthFrom(method, known, new ArrayList<>()));
        }
        return deepest;
    }

    private static int depthFrom(String method, Map<String, Integer> known, List<String> open) {
        if (known.containsKey(method)) {
            return known.get(method);
        }
        if (open.contains(method)) {
            must(false, method + " calls itself, by " + open);
            return 1;
        }
        open.add(method);
        int below = 0;
        for (String called : CALLS.getOrDefault(method, new LinkedHashSet<>())) {
            below = Math.max(below, depthFrom(called, known, open));
        }
        open.remove(method);
        known.put(method, below + 1);
        return below + 1;
    }

    private static String nameOf(Element element) {
        return element.getEnclosingElement() + "." + element;
    }

    /** Goes over the whole tree, and notes the calls of each method. */
    private static final class Looking extends TreePathScanner<Void, Void> {
        private String method = "";

        @Override
        public Void scan(Tree tree, Void nothing) {
            if (tree != null) {
                mustAt(tree, !LEFT_OUT.contains(tree.getKind()), "no " + tree.getKind());
            }
            return super.scan(tree, nothing);
        }

        private Element elementOf(Tree tree) {
            return trees.getElement(new TreePath(getCurrentPath(), tree));
        }

        @Override
        public Void visitClass(ClassTree tree, Void nothing) {
            Tree around = getCurrentPath().getParentPath().getLeaf();
            if (around instanceof CompilationUnitTree) {
                mustAt(tree, tree.getModifiers().getFlags().contains(Modifier.PUBLIC), "one class alone, a public one");
            } else {
                mustAt(tree, around instanceof ClassTree, "no class inside a method: " + tree.getSimpleName());
                mustAt(tree, tree.getModifiers().getFlags().contains(Modifier.STATIC), "each class inside is static");
            }
            return super.visitClass(tree, nothing);
        }

        @Override
        public Void visitMethod(MethodTree tree, Void nothing) {
            String before = method;
            method = nameOf(trees.getElement(getCurrentPath()));
            CALLS.putIfAbsent(method, new LinkedHashSet<>());
            mustAt(tree, tree.getParameters().size() <= 7, method + " takes at most seven parameters");
            BlockTree body = tree.getBody();
            long first = unit.getLineMap().getLineNumber(trees.getSourcePositions().getStartPosition(unit, tree));
            long last = unit.getLineMap().getLineNumber(trees.getSourcePositions().getEndPosition(unit, body));
            mustAt(tree, last - first < 60, method + " has at most some sixty lines");
            super.visitMethod(tree, nothing);
            method = before;
            return null;
        }

        @Override
        public Void visitMethodInvocation(MethodInvocationTree tree, Void nothing) {
            Element called = trees.getElement(getCurrentPath());
            String name = nameOf(called);
            // The call of the class above, which the compiler puts in front of a constructor, is no one's own.
            if (!name.equals("java.lang.Object.Object()")) {
                CALLS.computeIfAbsent(method, m -> new LinkedHashSet<>()).add(name);
                mustAt(tree, name.startsWith("ConnectorRouter") || LIBRARY.contains(name), name + " is in the list");
            }
            return super.visitMethodInvocation(tree, nothing);
        }

        @Override
        public Void visitNewClass(NewClassTree tree, Void nothing) {
            String name = nameOf(trees.getElement(getCurrentPath()));
            mustAt(tree, name.startsWith("ConnectorRouter") || name.equals("java.lang.StringBuilder.StringBuilder()"),
                name + " may be made");
            mustAt(tree, tree.getClassBody() == null, "no class without a name");
            CALLS.computeIfAbsent(method, m -> new LinkedHashSet<>()).add(name);
            return super.visitNewClass(tree, nothing);
        }

        @Override
        public Void visitVariable(VariableTree tree, Void nothing) {
            Element element = trees.getElement(getCurrentPath());
            String type = element.asType().toString();
            mustAt(tree, TYPES.contains(type) || type.startsWith("ConnectorRouter"), type + " is a type of the rules");
            if (element.getModifiers().contains(Modifier.STATIC)) {
                mustAt(tree, element.getModifiers().contains(Modifier.FINAL), tree.getName() + " is final");
                mustAt(tree, tree.getInitializer() != null
                    && (tree.getInitializer().getKind() == Tree.Kind.NEW_ARRAY || constantOf(element) != null),
                    tree.getName() + " is a constant, or written out");
            }
            return super.visitVariable(tree, nothing);
        }

        private Object constantOf(Element element) {
            return element instanceof VariableElement ? ((VariableElement) element).getConstantValue() : null;
        }

        @Override
        public Void visitTypeCast(TypeCastTree tree, Void nothing) {
            mustAt(tree, false, "no cast is needed");
            return super.visitTypeCast(tree, nothing);
        }

        // ---- divisors and joined texts

        @Override
        public Void visitBinary(BinaryTree tree, Void nothing) {
            if (tree.getKind() == Tree.Kind.DIVIDE || tree.getKind() == Tree.Kind.REMAINDER) {
                looked++;
                Object divisor = constantOf(elementOf(tree.getRightOperand()));
                mustAt(tree, divisor instanceof Integer && (Integer) divisor != 0, "a divisor is a constant, not 0");
            }
            if (tree.getKind() == Tree.Kind.PLUS) {
                String type = trees.getTypeMirror(getCurrentPath()).toString();
                mustAt(tree, type.equals("int") || type.equals("long"), "no texts are joined by +");
            }
            return super.visitBinary(tree, nothing);
        }

        @Override
        public Void visitCompoundAssignment(CompoundAssignmentTree tree, Void nothing) {
            mustAt(tree, tree.getKind() == Tree.Kind.PLUS_ASSIGNMENT || tree.getKind() == Tree.Kind.MINUS_ASSIGNMENT,
                "no division by assignment");
            return super.visitCompoundAssignment(tree, nothing);
        }

        // ---- loops

        @Override
        public Void visitForLoop(ForLoopTree tree, Void nothing) {
            looked++;
            String counter = tree.getUpdate().size() == 1 ? countedBy(tree.getUpdate().get(0).toString()) : null;
            mustAt(tree, counter != null && isBoundOf(tree.getCondition(), counter), "a counter against a bound");
            mustAt(tree, counter != null && !changes(tree.getStatement(), counter), "the counter counts alone");
            return super.visitForLoop(tree, nothing);
        }

        private String countedBy(String update) {
            return update.matches("\\w+\\+\\+;") ? update.substring(0, update.length() - 3) : null;
        }

        @Override
        public Void visitWhileLoop(WhileLoopTree tree, Void nothing) {
            looked++;
            String counter = counterIn(tree.getCondition());
            mustAt(tree, counter != null && changes(tree.getStatement(), counter), "a counter against a bound");
            return super.visitWhileLoop(tree, nothing);
        }

        @Override
        public Void visitDoWhileLoop(DoWhileLoopTree tree, Void nothing) {
            mustAt(tree, false, "a loop of a kind that is not looked at");
            return super.visitDoWhileLoop(tree, nothing);
        }

        @Override
        public Void visitEnhancedForLoop(EnhancedForLoopTree tree, Void nothing) {
            mustAt(tree, false, "a loop of a kind that is not looked at");
            return super.visitEnhancedForLoop(tree, nothing);
        }

        private ExpressionTree bare(ExpressionTree tree) {
            ExpressionTree inside = tree;
            while (inside instanceof ParenthesizedTree) {
                inside = ((ParenthesizedTree) inside).getExpression();
            }
            return inside;
        }

        private boolean isBoundOf(ExpressionTree condition, String counter) {
            return counter.equals(counterIn(condition));
        }

        /** The name on the left of the first comparison, one that all others are joined to by &&. */
        private String counterIn(ExpressionTree condition) {
            ExpressionTree first = condition == null ? null : bare(condition);
            while (first != null && first.getKind() == Tree.Kind.CONDITIONAL_AND) {
                first = bare(((BinaryTree) first).getLeftOperand());
            }
            if (first == null || first.getKind() != Tree.Kind.LESS_THAN && first.getKind() != Tree.Kind.GREATER_THAN) {
                return null;
            }
            ExpressionTree left = bare(((BinaryTree) first).getLeftOperand());
            return left instanceof IdentifierTree ? left.toString() : null;
        }

        /** Whether a statement counts a variable up or down, or puts a value in it. */
        private boolean changes(Tree statement, String counter) {
            boolean[] found = {false};
            new TreeScanner<Void, Void>() {
                @Override
                public Void visitUnary(UnaryTree tree, Void none) {
                    boolean counts = tree.getKind() == Tree.Kind.POSTFIX_INCREMENT
                        || tree.getKind() == Tree.Kind.POSTFIX_DECREMENT;
                    found[0] |= counts && tree.getExpression().toString().equals(counter);
                    return super.visitUnary(tree, none);
                }

                @Override
                public Void visitAssignment(com.sun.source.tree.AssignmentTree tree, Void none) {
                    found[0] |= tree.getVariable().toString().equals(counter);
                    return super.visitAssignment(tree, none);
                }
            }.scan(statement, null);
            return found[0];
        }
    }
}

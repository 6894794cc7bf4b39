import com.sun.source.tree.BinaryTree;
import com.sun.source.tree.ClassTree;
import com.sun.source.tree.CompilationUnitTree;
import com.sun.source.tree.ConditionalExpressionTree;
import com.sun.source.tree.ExpressionTree;
import com.sun.source.tree.ForLoopTree;
import com.sun.source.tree.LineMap;
import com.sun.source.tree.MethodInvocationTree;
import com.sun.source.tree.MethodTree;
import com.sun.source.tree.NewArrayTree;
import com.sun.source.tree.NewClassTree;
import com.sun.source.tree.Tree;
import com.sun.source.tree.TypeCastTree;
import com.sun.source.tree.WhileLoopTree;
import com.sun.source.util.JavacTask;
import com.sun.source.util.TreePath;
import com.sun.source.util.TreePathScanner;
import com.sun.source.util.Trees;
import java.io.IOException;
import java.nio.file.Files;
import java.nio.file.Path;
import java.util.EnumSet;
import java.util.Map;
import java.util.Set;
import java.util.TreeMap;
import java.util.TreeSet;
import javax.lang.model.element.Element;
import javax.lang.model.element.Modifier;
import javax.tools.JavaCompiler;
import javax.tools.StandardJavaFileManager;
import javax.tools.ToolProvider;

/** LANGUAGE.md by the source as javac reads it: what stands there, what is called, how deep, what is made, what divides. */
public final class SourceTest {
    private static final Path SOURCE = Path.of("src/main/java/WindowRounds.java");
    private static final int DEEPEST = 8, LONGEST = 60, PARAMETERS = 7;

    /** All that the class needs so far: what comes newly is to be held against LANGUAGE.md first. */
    private static final Set<Tree.Kind> KINDS = EnumSet.of(
            Tree.Kind.COMPILATION_UNIT, Tree.Kind.CLASS, Tree.Kind.METHOD, Tree.Kind.VARIABLE, Tree.Kind.MODIFIERS,
            Tree.Kind.PRIMITIVE_TYPE, Tree.Kind.ARRAY_TYPE, Tree.Kind.IDENTIFIER, Tree.Kind.MEMBER_SELECT,
            Tree.Kind.NEW_CLASS, Tree.Kind.NEW_ARRAY, Tree.Kind.INT_LITERAL, Tree.Kind.CHAR_LITERAL,
            Tree.Kind.BOOLEAN_LITERAL, Tree.Kind.BLOCK, Tree.Kind.EXPRESSION_STATEMENT, Tree.Kind.IF,
            Tree.Kind.FOR_LOOP, Tree.Kind.WHILE_LOOP, Tree.Kind.SWITCH, Tree.Kind.CASE, Tree.Kind.BREAK,
            Tree.Kind.CONTINUE, Tree.Kind.RETURN, Tree.Kind.PARENTHESIZED, Tree.Kind.CONDITIONAL_EXPRESSION,
            Tree.Kind.METHOD_INVOCATION, Tree.Kind.ARRAY_ACCESS, Tree.Kind.TYPE_CAST, Tree.Kind.ASSIGNMENT,
            Tree.Kind.PLUS_ASSIGNMENT, Tree.Kind.POSTFIX_INCREMENT, Tree.Kind.POSTFIX_DECREMENT,
            Tree.Kind.PLUS, Tree.Kind.MINUS, Tree.Kind.MULTIPLY, Tree.Kind.DIVIDE, Tree.Kind.REMAINDER,
            Tree.Kind.UNARY_MINUS, Tree.Kind.UNSIGNED_RIGHT_SHIFT, Tree.Kind.LOGICAL_COMPLEMENT,
            Tree.Kind.CONDITIONAL_AND, Tree.Kind.CONDITIONAL_OR, Tree.Kind.EQUAL_TO, Tree.Kind.NOT_EQUAL_TO,
            Tree.Kind.LESS_THAN, Tree.Kind.LESS_THAN_EQUAL, Tree.Kind.GREATER_THAN, Tree.Kind.GREATER_THAN_EQUAL);
    private static final Set<String> LIBRARY = Set.of("java.lang.System.arraycopy", "java.lang.Object.<init>");

    private SourceTest() {
    }

    public static void main(String[] args) throws IOException {
        String source = Files.readString(SOURCE);
        Check.holds("signs 1 to 127", source.chars().allMatch(c -> c == '\n' || c >= 32 && c < 127));
        JavaCompiler compiler = ToolProvider.getSystemJavaCompiler();
        try (StandardJavaFileManager files = compiler.getStandardFileManager(null, null, null)) {
            JavacTask task = (JavacTask) compiler.getTask(null, files, null, null, null, files.getJavaFileObjects(SOURCE));
            CompilationUnitTree unit = task.parse().iterator().next();
            task.analyze();
            Look look = new Look(Trees.instance(task), unit);
            look.scan(unit, null);
            look.lookAtCalls();
        }
        Check.end("SourceTest");
    }

    /** Goes once through all that stands in the file. */
    private static final class Look extends TreePathScanner<Void, Void> {
        private final Trees trees;
        private final CompilationUnitTree unit;
        private final Map<String, Set<String>> callsOf = new TreeMap<>();
        private final Set<String> face = new TreeSet<>();
        private final Set<String> own = new TreeSet<>();

        Look(Trees trees, CompilationUnitTree unit) {
            this.trees = trees;
            this.unit = unit;
        }

        private long line(Tree tree, boolean isEnd) {
            LineMap map = unit.getLineMap();
            long at = isEnd ? trees.getSourcePositions().getEndPosition(unit, tree)
                    : trees.getSourcePositions().getStartPosition(unit, tree);
            return at < 0 ? 0 : map.getLineNumber(at);
        }

        private void holds(String what, Tree tree, boolean isSo) {
            Check.holds("line " + line(tree, false) + ": " + what, isSo);
        }

        @Override
        public Void scan(Tree tree, Void none) {
            if (tree != null) {
                holds(tree.getKind() + " is among the kinds that the class needs", tree, KINDS.contains(tree.getKind()));
            }
            return super.scan(tree, none);
        }

        @Override
        public Void visitClass(ClassTree tree, Void none) {
            boolean isInside = getCurrentPath().getParentPath().getLeaf() instanceof ClassTree;
            Set<Modifier> modifiers = tree.getModifiers().getFlags();
            if (isInside) {
                holds("private and static", tree, modifiers.contains(Modifier.PRIVATE) && modifiers.contains(Modifier.STATIC));
            }
            return super.visitClass(tree, none);
        }

        @Override
        public Void visitMethod(MethodTree tree, Void none) {
            String name = tree.getName().toString();
            (tree.getModifiers().getFlags().contains(Modifier.PUBLIC) ? face : own).add(name);
            callsOf.computeIfAbsent(nameOf(getCurrentPath()), n -> new TreeSet<>());
            holds("seven parameters at most: " + name, tree, tree.getParameters().size() <= PARAMETERS);
            holds("some sixty lines: " + name, tree, line(tree, true) - line(tree, false) < LONGEST);
            return super.visitMethod(tree, none);
        }

        @Override
        public Void visitMethodInvocation(MethodInvocationTree tree, Void none) {
            TreePath called = new TreePath(getCurrentPath(), tree.getMethodSelect());
            noteCall(tree, nameOf(called));
            return super.visitMethodInvocation(tree, none);
        }

        @Override
        public Void visitNewClass(NewClassTree tree, Void none) {
            holds("no class without a name", tree, tree.getClassBody() == null);
            holds("made in a field", tree, methodAround() == null);
            return super.visitNewClass(tree, none);
        }

        @Override
        public Void visitNewArray(NewArrayTree tree, Void none) {
            holds("made in a field", tree, methodAround() == null);
            return super.visitNewArray(tree, none);
        }

        @Override
        public Void visitTypeCast(TypeCastTree tree, Void none) {
            holds("a cast among numbers", tree, tree.getType().getKind() == Tree.Kind.PRIMITIVE_TYPE);
            return super.visitTypeCast(tree, none);
        }

        @Override
        public Void visitForLoop(ForLoopTree tree, Void none) {
            holds("a bound that is compared", tree, isCompared(tree.getCondition()) && !tree.getUpdate().isEmpty());
            return super.visitForLoop(tree, none);
        }

        @Override
        public Void visitWhileLoop(WhileLoopTree tree, Void none) {
            holds("a bound that is compared", tree, isCompared(tree.getCondition()));
            return super.visitWhileLoop(tree, none);
        }

        @Override
        public Void visitBinary(BinaryTree tree, Void none) {
            if (tree.getKind() == Tree.Kind.DIVIDE || tree.getKind() == Tree.Kind.REMAINDER) {
                holds("the divisor is looked at first", tree, isLookedAt(tree.getRightOperand().toString()));
            }
            return super.visitBinary(tree, none);
        }

        private static boolean isCompared(Tree condition) {
            return condition != null && condition.toString().matches(".*[^<>-][<>]=? .*");
        }

        /** Some condition around it says that it is above 0. */
        private boolean isLookedAt(String divisor) {
            for (TreePath path = getCurrentPath(); path != null; path = path.getParentPath()) {
                Tree leaf = path.getLeaf();
                ExpressionTree condition = null;
                if (leaf instanceof ConditionalExpressionTree) {
                    condition = ((ConditionalExpressionTree) leaf).getCondition();
                } else if (leaf instanceof ForLoopTree) {
                    condition = ((ForLoopTree) leaf).getCondition();
                }
                if (condition != null && (" " + condition + " ").contains(" " + divisor + " > 0 ")) {
                    return true;
                }
            }
            return false;
        }

        private TreePath methodAround() {
            TreePath path = getCurrentPath();
            while (path != null && !(path.getLeaf() instanceof MethodTree)) {
                path = path.getParentPath();
            }
            return path;
        }

        private String nameOf(TreePath path) {
            Element element = trees.getElement(path);
            return element.getEnclosingElement() + "." + element.getSimpleName();
        }

        private void noteCall(Tree tree, String called) {
            TreePath around = methodAround();
            if (called.startsWith("WindowRounds.")) {
                callsOf.computeIfAbsent(around == null ? "a field" : nameOf(around), n -> new TreeSet<>()).add(called);
            } else {
                holds(called + " is among what the class needs of the library", tree, LIBRARY.contains(called));
            }
        }

        private void lookAtCalls() {
            for (String name : own) {
                Check.holds("a name of its own: " + name, name.equals("<init>") || !face.contains(name));
            }
            Check.due("names of the face and the constructor", face.size(), 45 + 1);
            for (String name : callsOf.keySet()) {
                Check.holds(name + " is " + depthOf(name, 1) + " deep", depthOf(name, 1) <= DEEPEST);
            }
        }

        /** What calls itself, by others too, would be deeper than any depth. */
        private int depthOf(String name, int at) {
            int deepest = at;
            if (at <= DEEPEST) {
                for (String called : callsOf.getOrDefault(name, Set.of())) {
                    deepest = Math.max(deepest, depthOf(called, at + 1));
                }
            }
            return deepest;
        }
    }
}

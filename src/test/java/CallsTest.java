import com.sun.source.tree.BinaryTree;
import com.sun.source.tree.CompilationUnitTree;
import com.sun.source.tree.CompoundAssignmentTree;
import com.sun.source.tree.DoWhileLoopTree;
import com.sun.source.tree.ExpressionTree;
import com.sun.source.tree.ForLoopTree;
import com.sun.source.tree.MethodInvocationTree;
import com.sun.source.tree.MethodTree;
import com.sun.source.tree.NewClassTree;
import com.sun.source.tree.ParenthesizedTree;
import com.sun.source.tree.Tree;
import com.sun.source.tree.WhileLoopTree;
import com.sun.source.util.JavacTask;
import com.sun.source.util.TreePath;
import com.sun.source.util.TreePathScanner;
import com.sun.source.util.Trees;
import java.io.IOException;
import java.nio.file.Path;
import java.util.HashMap;
import java.util.List;
import java.util.Map;
import java.util.Set;
import java.util.TreeMap;
import java.util.TreeSet;
import java.util.stream.Collectors;
import javax.lang.model.element.Element;
import javax.lang.model.element.VariableElement;
import javax.tools.JavaCompiler;
import javax.tools.StandardJavaFileManager;
import javax.tools.ToolProvider;

/** Those rules of LANGUAGE.md that need to know what calls what: the library, recursion, how deep calls go, divisors, loops. */
public final class CallsTest {
    private static final Check CHECK = new Check();
    private static final int DEEPEST = 8;
    private static final Set<Tree.Kind> BOUNDS = Set.of(Tree.Kind.LESS_THAN, Tree.Kind.LESS_THAN_EQUAL, Tree.Kind.GREATER_THAN,
            Tree.Kind.GREATER_THAN_EQUAL);
    private static final Set<String> LIBRARY = Set.of("String.length", "String.charAt", "Math.max", "Math.min", "Math.abs", "Math.floorDiv",
            "Math.floorMod", "Long.bitCount", "Arrays.fill", "System.arraycopy", "Object.<init>");

    public static void main(String[] args) throws IOException {
        Reader reader = read(Path.of("src/main/java/FlashPages.java"));
        CHECK.due("methods, " + reader.calls.size(), reader.calls.size() > 100, true);
        CHECK.due("loops, " + reader.loops, reader.loops > 50, true);
        askRecursion(reader);
        Map<String, Integer> depths = new HashMap<>();
        for (String name : reader.calls.keySet()) {
            int depth = depth(name, reader, depths);
            CHECK.due(name + " goes " + depth + " deep, eight at most", depth <= DEEPEST, true);
        }
        CHECK.finish();
    }

    private static Reader read(Path path) throws IOException {
        JavaCompiler compiler = ToolProvider.getSystemJavaCompiler();
        try (StandardJavaFileManager files = compiler.getStandardFileManager(null, null, null)) {
            JavacTask task = (JavacTask) compiler.getTask(null, files, null, List.of("-proc:none"), null, files.getJavaFileObjects(path));
            Iterable<? extends CompilationUnitTree> units = task.parse();
            task.analyze();
            Reader reader = new Reader(Trees.instance(task));
            reader.scan(units, "a field");
            return reader;
        }
    }

    /** Each ring of calls is the parser's, and somewhere on it the depth goes up: without those calls there is no ring. */
    private static void askRecursion(Reader reader) {
        for (String name : reader.calls.keySet()) {
            boolean isRecursive = reached(name, reader.calls).contains(name);
            if (isRecursive) {
                CHECK.due(name + " is recursive and the parser's", name.startsWith("Parser.read"), true);
                CHECK.due(name + " carries how many are open", reader.parameters.get(name).contains("int open"), true);
            }
            CHECK.due(name + " is on a ring that does not go deeper", reached(name, reader.level).contains(name), false);
        }
        CHECK.due("there is recursion", reached("Parser.readSum", reader.calls).contains("Parser.readSum"), true);
    }

    private static Set<String> reached(String from, Map<String, Set<String>> calls) {
        Set<String> all = new TreeSet<>();
        List<String> next = List.copyOf(calls.getOrDefault(from, Set.of()));
        while (!next.isEmpty()) {
            next = next.stream().filter(all::add).flatMap(name -> calls.getOrDefault(name, Set.of()).stream()).collect(Collectors.toList());
        }
        return all;
    }

    /** How many calls stand open at the most, all methods that call one another counting as one. */
    private static int depth(String name, Reader reader, Map<String, Integer> known) {
        Integer old = known.get(name);
        if (old != null) {
            return old;
        }
        Set<String> ring = new TreeSet<>(Set.of(name));
        for (String other : reached(name, reader.calls)) {
            if (reached(other, reader.calls).contains(name)) {
                ring.add(other);
            }
        }
        int deepest = 0;
        for (String member : ring) {
            for (String called : reader.calls.getOrDefault(member, Set.of())) {
                deepest = ring.contains(called) ? deepest : Math.max(deepest, depth(called, reader, known));
            }
        }
        known.put(name, deepest + 1);
        return deepest + 1;
    }

    /** Whom each method calls, and what can be asked on the way. */
    private static final class Reader extends TreePathScanner<Void, String> {
        final Map<String, Set<String>> calls = new TreeMap<>();
        /** Without those that hand on a greater depth. */
        final Map<String, Set<String>> level = new TreeMap<>();
        final Map<String, String> parameters = new TreeMap<>();
        int loops;
        private final Trees trees;

        Reader(Trees trees) {
            this.trees = trees;
        }

        private static String nameOf(Element method) {
            return method.getEnclosingElement().getSimpleName() + "." + method.getSimpleName();
        }

        @Override
        public Void visitMethod(MethodTree method, String in) {
            String name = nameOf(trees.getElement(getCurrentPath()));
            CHECK.due(name + " is there once", calls.containsKey(name), false);
            calls.put(name, new TreeSet<>());
            level.put(name, new TreeSet<>());
            parameters.put(name, method.getParameters().toString());
            return super.visitMethod(method, name);
        }

        @Override
        public Void visitMethodInvocation(MethodInvocationTree call, String in) {
            note(in, call.getArguments());
            return super.visitMethodInvocation(call, in);
        }

        @Override
        public Void visitNewClass(NewClassTree made, String in) {
            note(in, made.getArguments());
            return super.visitNewClass(made, in);
        }

        private void note(String in, List<? extends ExpressionTree> arguments) {
            Element called = trees.getElement(getCurrentPath());
            String name = nameOf(called);
            boolean isOwn = called.getEnclosingElement().toString().startsWith("FlashPages");
            CHECK.due(in + " calls " + name + ", of the class or of the list", isOwn || LIBRARY.contains(name), true);
            if (calls.containsKey(in)) {
                calls.get(in).add(name);
                if (arguments.stream().noneMatch(argument -> argument.toString().equals("open + 1"))) {
                    level.get(in).add(name);
                }
            }
        }

        @Override
        public Void visitBinary(BinaryTree tree, String in) {
            if (tree.getKind() == Tree.Kind.DIVIDE || tree.getKind() == Tree.Kind.REMAINDER) {
                askDivisor(tree.getRightOperand(), in);
            }
            return super.visitBinary(tree, in);
        }

        @Override
        public Void visitCompoundAssignment(CompoundAssignmentTree tree, String in) {
            boolean divides = tree.getKind() == Tree.Kind.DIVIDE_ASSIGNMENT || tree.getKind() == Tree.Kind.REMAINDER_ASSIGNMENT;
            CHECK.due(in + ": " + tree + " divides", divides, false);
            return super.visitCompoundAssignment(tree, in);
        }

        @Override
        public Void visitForLoop(ForLoopTree loop, String in) {
            askLoop(loop.getCondition(), in);
            return super.visitForLoop(loop, in);
        }

        @Override
        public Void visitWhileLoop(WhileLoopTree loop, String in) {
            askLoop(loop.getCondition(), in);
            return super.visitWhileLoop(loop, in);
        }

        @Override
        public Void visitDoWhileLoop(DoWhileLoopTree loop, String in) {
            askLoop(loop.getCondition(), in);
            return super.visitDoWhileLoop(loop, in);
        }

        private void askLoop(ExpressionTree condition, String in) {
            loops++;
            CHECK.due(in + ": a loop while " + condition + " has a counter against a bound", isBounded(condition), true);
        }

        /** A bound holds whatever else is asked beside it by &&. */
        private static boolean isBounded(Tree condition) {
            if (condition instanceof ParenthesizedTree) {
                return isBounded(((ParenthesizedTree) condition).getExpression());
            }
            if (condition != null && condition.getKind() == Tree.Kind.CONDITIONAL_AND) {
                return isBounded(((BinaryTree) condition).getLeftOperand()) || isBounded(((BinaryTree) condition).getRightOperand());
            }
            return condition != null && BOUNDS.contains(condition.getKind());
        }

        /** A constant that is not 0, or what the same method tests. */
        private void askDivisor(ExpressionTree divisor, String in) {
            Element element = trees.getElement(new TreePath(getCurrentPath(), divisor));
            boolean isConstant = element instanceof VariableElement && ((VariableElement) element).getConstantValue() != null
                    && ((Number) ((VariableElement) element).getConstantValue()).longValue() != 0;
            boolean isNumber = divisor.toString().matches("[1-9][0-9]*L?|\\(1L << [1-9][0-9]?\\)");
            boolean isTested = enclosingMethod().contains(divisor + " > 0") || enclosingMethod().contains(divisor + " == 0");
            CHECK.due(in + " looks at the divisor " + divisor, isConstant || isNumber || isTested, true);
        }

        private String enclosingMethod() {
            TreePath path = getCurrentPath();
            while (path != null && !(path.getLeaf() instanceof MethodTree)) {
                path = path.getParentPath();
            }
            return path == null ? "" : path.getLeaf().toString();
        }
    }
}

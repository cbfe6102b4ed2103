import com.sun.source.tree.CompilationUnitTree;
import com.sun.source.tree.DoWhileLoopTree;
import com.sun.source.tree.ForLoopTree;
import com.sun.source.tree.MethodInvocationTree;
import com.sun.source.tree.MethodTree;
import com.sun.source.tree.NewClassTree;
import com.sun.source.tree.WhileLoopTree;
import com.sun.source.util.JavacTask;
import com.sun.source.util.TreePath;
import com.sun.source.util.TreePathScanner;
import com.sun.source.util.Trees;
import java.io.IOException;
import java.nio.file.Path;
import java.util.ArrayList;
import java.util.LinkedHashMap;
import java.util.LinkedHashSet;
import java.util.List;
import java.util.Map;
import java.util.Set;
import javax.lang.model.element.Element;
import javax.lang.model.element.ExecutableElement;
import javax.lang.model.element.Modifier;
import javax.tools.JavaCompiler;
import javax.tools.StandardJavaFileManager;
import javax.tools.ToolProvider;

/** Rules 8, 9 and 11 of LANGUAGE.md, as the compiler reads the source: how deep calls go, how loops end. */
public final class CallsTest {
    private static final Path SOURCE = Path.of("src/main/java/JarCouncil.java");
    private static final int DEEPEST = 8;

    private final Checks checks = new Checks("CallsTest");
    private final Map<Element, Set<Element>> calls = new LinkedHashMap<>();

    public static void main(String[] args) throws IOException {
        CallsTest test = new CallsTest();
        test.read();
        for (Element method : test.calls.keySet()) {
            List<Element> way = test.deepestFrom(method, new ArrayList<>());
            test.checks.due(way + " goes at most eight deep", Math.max(way.size(), DEEPEST), DEEPEST);
        }
        test.checks.finish();
    }

    private void read() throws IOException {
        JavaCompiler compiler = ToolProvider.getSystemJavaCompiler();
        try (StandardJavaFileManager files = compiler.getStandardFileManager(null, null, null)) {
            JavacTask task = (JavacTask) compiler.getTask(null, files, null, List.of("-proc:none"), null,
                    files.getJavaFileObjects(SOURCE));
            Iterable<? extends CompilationUnitTree> units = task.parse();
            task.analyze();
            for (CompilationUnitTree unit : units) {
                new Reader(Trees.instance(task)).scan(unit, null);
            }
        }
    }

    /** The longest way of calls; one that comes back to itself is told as too deep. */
    private List<Element> deepestFrom(Element method, List<Element> open) {
        List<Element> longest = new ArrayList<>();
        checks.due(method + " calls itself", open.contains(method) ? 1 : 0, 0);
        open.add(method);
        for (Element called : calls.getOrDefault(method, Set.of())) {
            if (!open.contains(called) || open.size() < 30) {
                List<Element> way = deepestFrom(called, open);
                longest = way.size() > longest.size() ? way : longest;
            }
        }
        open.remove(open.size() - 1);
        longest.add(0, method);
        return longest;
    }

    private final class Reader extends TreePathScanner<Void, Void> {
        private final Trees trees;
        private Element method;

        private Reader(Trees trees) {
            this.trees = trees;
        }

        @Override
        public Void visitMethod(MethodTree tree, Void none) {
            method = trees.getElement(getCurrentPath());
            calls.put(method, new LinkedHashSet<>());
            return super.visitMethod(tree, none);
        }

        @Override
        public Void visitMethodInvocation(MethodInvocationTree tree, Void none) {
            Element called = trees.getElement(new TreePath(getCurrentPath(), tree.getMethodSelect()));
            calls.get(method).add(called);
            boolean own = called instanceof ExecutableElement
                    && (called.getModifiers().contains(Modifier.PRIVATE) || called.toString().equals("Object()"));
            checks.due(called + " is one of the file's own", own || isConstructor() ? 1 : 0, 1);
            return super.visitMethodInvocation(tree, none);
        }

        private boolean isConstructor() {
            return method.getSimpleName().contentEquals("<init>");
        }

        @Override
        public Void visitNewClass(NewClassTree tree, Void none) {
            checks.due(tree + " is made by a constructor", isConstructor() ? 1 : 0, 1);
            calls.get(method).add(trees.getElement(getCurrentPath()));
            return super.visitNewClass(tree, none);
        }

        @Override
        public Void visitForLoop(ForLoopTree tree, Void none) {
            String until = String.valueOf(tree.getCondition());
            checks.due("for, " + until + ", tells its end", until.matches(".*(<|<=|>|>=) .*") ? 1 : 0, 1);
            checks.due("for, " + until + ", steps", tree.getUpdate().size(), 1);
            return super.visitForLoop(tree, none);
        }

        @Override
        public Void visitWhileLoop(WhileLoopTree tree, Void none) {
            checks.due(tree + " has no counter", 1, 0);
            return super.visitWhileLoop(tree, none);
        }

        @Override
        public Void visitDoWhileLoop(DoWhileLoopTree tree, Void none) {
            checks.due(tree + " has no counter", 1, 0);
            return super.visitDoWhileLoop(tree, none);
        }
    }
}

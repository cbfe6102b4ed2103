import com.sun.source.tree.ClassTree;
import com.sun.source.tree.CompilationUnitTree;
import com.sun.source.tree.MethodTree;
import com.sun.source.tree.Tree;
import com.sun.source.util.JavacTask;
import com.sun.source.util.TreePath;
import com.sun.source.util.TreePathScanner;
import com.sun.source.util.Trees;
import java.io.IOException;
import java.nio.file.Files;
import java.nio.file.Path;
import java.util.List;
import javax.lang.model.element.Element;
import javax.tools.JavaCompiler;
import javax.tools.StandardJavaFileManager;
import javax.tools.ToolProvider;

/** The source of the class as the compiler reads it. */
final class Source {
    private static final Path FILE = Path.of("src/main/java/JarCouncil.java");

    private final String text;
    private final Trees trees;
    private final CompilationUnitTree unit;

    Source() throws IOException {
        text = Files.readString(FILE);
        JavaCompiler compiler = ToolProvider.getSystemJavaCompiler();
        try (StandardJavaFileManager files = compiler.getStandardFileManager(null, null, null)) {
            JavacTask task = (JavacTask) compiler.getTask(null, files, null, List.of("-proc:none"), null,
                    files.getJavaFileObjects(FILE));
            unit = task.parse().iterator().next();
            task.analyze();
            trees = Trees.instance(task);
        }
    }

    CompilationUnitTree unit() {
        return unit;
    }

    /** What stands ahead of the class, of itself; lines are joined. */
    String head() {
        String ahead = text.substring(0, Math.max(0, text.indexOf("public final class")));
        return ahead.replaceAll("[\\s*]+", " ");
    }

    boolean hasCommonSignsAlone() {
        return text.chars().allMatch(c -> c < 128);
    }

    Element elementAt(TreePath path) {
        return trees.getElement(path);
    }

    String typeAt(TreePath path) {
        return String.valueOf(trees.getTypeMirror(path));
    }

    long linesOf(Tree tree) {
        long from = trees.getSourcePositions().getStartPosition(unit, tree);
        long to = trees.getSourcePositions().getEndPosition(unit, tree);
        return unit.getLineMap().getLineNumber(to) - unit.getLineMap().getLineNumber(from) + 1;
    }

    String lineOf(Tree tree) {
        long from = trees.getSourcePositions().getStartPosition(unit, tree);
        return "line " + unit.getLineMap().getLineNumber(from);
    }

    /** Goes through the source, and knows in which method and class it is. */
    abstract static class Walk extends TreePathScanner<Void, Void> {
        private MethodTree method;

        /** Null outside methods. */
        final MethodTree method() {
            return method;
        }

        final boolean isInConstructor() {
            return method != null && method.getReturnType() == null;
        }

        /** A field's first value. */
        final boolean isInField() {
            return method == null;
        }

        @Override
        public Void visitMethod(MethodTree tree, Void none) {
            MethodTree outer = method;
            method = tree;
            super.visitMethod(tree, none);
            method = outer;
            return none;
        }

        @Override
        public Void visitClass(ClassTree tree, Void none) {
            MethodTree outer = method;
            method = null;
            super.visitClass(tree, none);
            method = outer;
            return none;
        }
    }
}

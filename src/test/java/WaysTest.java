import com.sun.source.tree.ArrayAccessTree;
import com.sun.source.tree.BinaryTree;
import com.sun.source.tree.DoWhileLoopTree;
import com.sun.source.tree.ForLoopTree;
import com.sun.source.tree.MethodInvocationTree;
import com.sun.source.tree.MethodTree;
import com.sun.source.tree.NewArrayTree;
import com.sun.source.tree.NewClassTree;
import com.sun.source.tree.Tree;
import com.sun.source.tree.WhileLoopTree;
import com.sun.source.util.TreePath;
import java.io.IOException;
import java.util.ArrayList;
import java.util.LinkedHashMap;
import java.util.LinkedHashSet;
import java.util.List;
import java.util.Map;
import java.util.Set;
import javax.lang.model.element.Element;
import javax.lang.model.element.VariableElement;

/**
 * What the head of the class says of itself, sentence by sentence: by these ways it keeps to rules 7,
 * 8, 9, 11 and 12 of LANGUAGE.md. A sentence that stands there no more is not held to.
 */
public final class WaysTest {
    private static final String NO_OBJECT = "No call makes an object";
    private static final String ROWS = "Rows are read and written by at(), set(), longAt() and setLong() alone";
    private static final String DIVISORS = "A divisor is a constant, or is tested in its method";
    private static final String DEPTH = "Calls go at most eight deep, and none comes back to itself";
    private static final String LOOPS = "All loops count";
    private static final String LOOK = "row != null && i >= 0 && i < row.length";
    private static final List<String> TOUCHING = List.of("at", "set", "longAt", "setLong");
    private static final int DEEPEST = 8;

    private final Checks checks = new Checks("WaysTest");
    private final Source source;
    private final Map<Element, Set<Element>> calls = new LinkedHashMap<>();

    private WaysTest() throws IOException {
        source = new Source();
    }

    public static void main(String[] args) throws IOException {
        WaysTest test = new WaysTest();
        int said = 0;
        for (String sentence : List.of(NO_OBJECT, ROWS, DIVISORS, DEPTH, LOOPS)) {
            said += test.says(sentence) ? 1 : 0;
        }
        System.out.println("WaysTest: the head of the class tells " + said + " of 5 ways");
        test.new Ways().scan(test.source.unit(), null);
        test.depths();
        test.checks.finish();
    }

    private boolean says(String sentence) {
        return source.head().contains(sentence);
    }

    private void holds(String sentence, Tree tree, boolean so) {
        if (says(sentence)) {
            checks.due(source.lineOf(tree) + ": " + sentence, so ? 1 : 0, 1);
        }
    }

    private void depths() {
        checks.due("there are calls", calls.isEmpty() ? 0 : 1, 1);
        if (says(DEPTH)) {
            for (Element method : calls.keySet()) {
                List<Element> way = deepestFrom(method, new ArrayList<>());
                checks.due(way + " goes at most eight deep", Math.max(way.size(), DEEPEST), DEEPEST);
            }
        }
    }

    /** The longest way of calls. */
    private List<Element> deepestFrom(Element method, List<Element> open) {
        List<Element> longest = new ArrayList<>();
        checks.due(method + " calls itself", open.contains(method) ? 1 : 0, 0);
        open.add(method);
        for (Element called : calls.getOrDefault(method, Set.of())) {
            if (open.size() < 3 * DEEPEST) {
                List<Element> way = deepestFrom(called, open);
                longest = way.size() > longest.size() ? way : longest;
            }
        }
        open.remove(open.size() - 1);
        longest.add(0, method);
        return longest;
    }

    private final class Ways extends Source.Walk {
        private Element calling;

        @Override
        public Void visitMethod(MethodTree tree, Void none) {
            calling = source.elementAt(getCurrentPath());
            calls.put(calling, new LinkedHashSet<>());
            if (TOUCHING.contains(tree.getName().toString())) {
                holds(ROWS, tree, String.valueOf(tree.getBody()).contains(LOOK));
            }
            return super.visitMethod(tree, none);
        }

        @Override
        public Void visitMethodInvocation(MethodInvocationTree tree, Void none) {
            if (method() != null) {
                calls.get(calling).add(source.elementAt(new TreePath(getCurrentPath(), tree.getMethodSelect())));
            }
            return super.visitMethodInvocation(tree, none);
        }

        @Override
        public Void visitNewClass(NewClassTree tree, Void none) {
            holds(NO_OBJECT, tree, isInConstructor() || isInField());
            if (method() != null) {
                calls.get(calling).add(source.elementAt(getCurrentPath()));
            }
            return super.visitNewClass(tree, none);
        }

        @Override
        public Void visitNewArray(NewArrayTree tree, Void none) {
            holds(NO_OBJECT, tree, isInConstructor() || isInField());
            return super.visitNewArray(tree, none);
        }

        @Override
        public Void visitArrayAccess(ArrayAccessTree tree, Void none) {
            holds(ROWS, tree, method() != null && TOUCHING.contains(method().getName().toString()));
            return super.visitArrayAccess(tree, none);
        }

        @Override
        public Void visitBinary(BinaryTree tree, Void none) {
            if (tree.getKind() == Tree.Kind.DIVIDE || tree.getKind() == Tree.Kind.REMAINDER) {
                holds(DIVISORS, tree, isFineDivisor(tree));
            }
            return super.visitBinary(tree, none);
        }

        private boolean isFineDivisor(BinaryTree tree) {
            String divisor = String.valueOf(tree.getRightOperand());
            Element element = source.elementAt(new TreePath(getCurrentPath(), tree.getRightOperand()));
            Object constant = element instanceof VariableElement ? ((VariableElement) element).getConstantValue() : null;
            String body = method() == null ? "" : String.valueOf(method().getBody());
            return divisor.matches("[1-9][0-9]*") || constant instanceof Integer && (Integer) constant != 0
                    || body.contains(divisor + " > 0") || body.contains(divisor + " <= 0");
        }

        @Override
        public Void visitForLoop(ForLoopTree tree, Void none) {
            holds(LOOPS, tree, tree.getUpdate().size() == 1);
            holds(LOOPS, tree, String.valueOf(tree.getCondition()).matches(".*(<|<=|>|>=) .*"));
            return super.visitForLoop(tree, none);
        }

        @Override
        public Void visitWhileLoop(WhileLoopTree tree, Void none) {
            holds(LOOPS, tree, false);
            return super.visitWhileLoop(tree, none);
        }

        @Override
        public Void visitDoWhileLoop(DoWhileLoopTree tree, Void none) {
            holds(LOOPS, tree, false);
            return super.visitDoWhileLoop(tree, none);
        }
    }
}

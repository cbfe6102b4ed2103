import com.sun.source.tree.AssertTree;
import com.sun.source.tree.BinaryTree;
import com.sun.source.tree.BlockTree;
import com.sun.source.tree.ClassTree;
import com.sun.source.tree.DoWhileLoopTree;
import com.sun.source.tree.ExpressionTree;
import com.sun.source.tree.ForLoopTree;
import com.sun.source.tree.ImportTree;
import com.sun.source.tree.LambdaExpressionTree;
import com.sun.source.tree.MemberReferenceTree;
import com.sun.source.tree.MethodInvocationTree;
import com.sun.source.tree.MethodTree;
import com.sun.source.tree.SynchronizedTree;
import com.sun.source.tree.ThrowTree;
import com.sun.source.tree.Tree;
import com.sun.source.tree.TryTree;
import com.sun.source.tree.WhileLoopTree;
import com.sun.source.util.TreePath;
import java.io.IOException;
import java.lang.reflect.Constructor;
import java.lang.reflect.Field;
import java.lang.reflect.Method;
import java.lang.reflect.Modifier;
import java.util.HashSet;
import java.util.List;
import java.util.Map;
import java.util.Set;
import java.util.TreeSet;
import javax.lang.model.element.Element;

/** The public face, and the rules of LANGUAGE.md that can be read off the class and its source. */
public final class LanguageTest {
    /** Each call with how many ints it takes; a star: it answers a long. */
    private static final String FACE = "council4 ofSpeaker2 ofWord3 law1 swap2 judge5 worthOf5 choice2 says1 water1"
            + " worth1 together1 owed2* bargain2* motion3 dry2 day4 back1 guess1 byLaw1 share2* sheet3 lose1 put3"
            + " cell3* copy5 tell1 call1 as2 trace0 fault0 many1";
    private static final String CONSTANTS = "UNKNOWN=-1 OUTSIDE=-2 STATE=-3 FULL=-4 NONE=-9"
            + " LOST=-9223372036854775808";
    private static final List<String> IMPORTS = List.of("java.util.ArrayList", "java.util.List", "java.util.Arrays",
            "java.util.Iterator");
    /** Of each class of the library what may be called; none named: all over numbers. */
    private static final Map<String, List<String>> LIBRARY = Map.ofEntries(
            entry("String", "<init> length charAt isEmpty equals indexOf substring toCharArray"),
            entry("StringBuilder", "<init> append charAt setCharAt setLength deleteCharAt reverse length toString"),
            entry("ArrayList", "<init> add get set remove size isEmpty clear"),
            entry("List", "add get set remove size isEmpty clear of"),
            entry("Iterator", "hasNext next"), entry("Iterable", "iterator"), entry("Comparable", "compareTo"),
            entry("System", "arraycopy"), entry("Arrays", "copyOf copyOfRange fill"),
            entry("Array", "clone"), entry("Object", "<init> clone"), entry("Enum", "ordinal"),
            entry("Integer", ""), entry("Long", ""), entry("Math", ""));
    private static final int MOST_LINES = 70, MOST_TAKEN = 7, MOST_FIELDS = 20, MOST_CLASSES = 12;

    private final Checks checks = new Checks("LanguageTest");

    public static void main(String[] args) throws IOException, IllegalAccessException {
        LanguageTest test = new LanguageTest();
        test.face();
        test.constants();
        test.members(JarCouncil.class);
        for (Class<?> inside : JarCouncil.class.getDeclaredClasses()) {
            test.holds(inside + " is static", Modifier.isStatic(inside.getModifiers()));
            test.members(inside);
        }
        Source source = new Source();
        test.holds("signs are of the common ones", source.hasCommonSignsAlone());
        Rules rules = test.new Rules(source);
        rules.scan(source.unit(), null);
        test.holds("some twelve classes at most", rules.classes <= MOST_CLASSES);
        test.checks.finish();
    }

    private static Map.Entry<String, List<String>> entry(String name, String calls) {
        return Map.entry(name, calls.isEmpty() ? List.of() : List.of(calls.split(" ")));
    }

    private static boolean isListed(String owner, String name) {
        List<String> calls = LIBRARY.get(owner);
        boolean isAnyNumber = calls != null && calls.isEmpty() && !name.endsWith("Exact") && !name.equals("random");
        return isAnyNumber || calls != null && calls.contains(name);
    }

    private void holds(String what, boolean so) {
        checks.due(what, so ? 1 : 0, 1);
    }

    // ---- rules 1, 5 and 11, by what the class has

    private void face() {
        Set<String> calls = new TreeSet<>();
        for (Method m : JarCouncil.class.getDeclaredMethods()) {
            if (Modifier.isPublic(m.getModifiers())) {
                boolean ofLong = m.getReturnType() == long.class;
                holds(m + " answers a number", ofLong || m.getReturnType() == int.class);
                holds(m + " is of the object", !Modifier.isStatic(m.getModifiers()));
                for (Class<?> type : m.getParameterTypes()) {
                    holds(m + " takes ints", type == int.class);
                }
                calls.add(m.getName() + m.getParameterCount() + (ofLong ? "*" : ""));
            } else {
                holds(m + " is private", Modifier.isPrivate(m.getModifiers()));
            }
        }
        Set<String> due = new TreeSet<>(List.of(FACE.split(" ")));
        holds("the face is " + due + ", not " + calls, calls.equals(due));
        Constructor<?>[] made = JarCouncil.class.getDeclaredConstructors();
        holds("one public constructor", made.length == 1 && Modifier.isPublic(made[0].getModifiers())
                && made[0].getParameterCount() == 0);
        int of = JarCouncil.class.getModifiers();
        holds("public and final", Modifier.isPublic(of) && Modifier.isFinal(of));
    }

    private void constants() throws IllegalAccessException {
        Set<String> constants = new TreeSet<>();
        for (Field f : JarCouncil.class.getDeclaredFields()) {
            int of = f.getModifiers();
            if (Modifier.isPublic(of)) {
                holds(f + " is a constant", Modifier.isStatic(of) && Modifier.isFinal(of));
                holds(f + "'s type", f.getType() == (f.getName().equals("LOST") ? long.class : int.class));
                constants.add(f.getName() + "=" + f.get(null));
            } else {
                holds(f + " is private", Modifier.isPrivate(of));
            }
        }
        holds("constants " + constants, constants.equals(new TreeSet<>(List.of(CONSTANTS.split(" ")))));
    }

    private void members(Class<?> owner) {
        Set<String> names = new HashSet<>();
        for (Method m : JarCouncil.class.getDeclaredMethods()) {
            if (Modifier.isPublic(m.getModifiers())) {
                names.add(m.getName());
            }
        }
        int fields = 0;
        for (Field f : owner.getDeclaredFields()) {
            boolean isStatic = Modifier.isStatic(f.getModifiers());
            holds(f + " is a constant, or of the object", !isStatic || Modifier.isFinal(f.getModifiers()));
            fields += isStatic ? 0 : 1;
        }
        holds(owner + " has some twenty fields at most", fields <= MOST_FIELDS);
        for (Method m : owner.getDeclaredMethods()) {
            holds(m + " takes seven at most", m.getParameterCount() <= MOST_TAKEN);
            holds(m + " bears no public name",
                    !Modifier.isPrivate(m.getModifiers()) || !names.contains(m.getName()));
        }
    }

    // ---- rules 2, 4, 5, 6, 9, 10 and 11, by the source

    private final class Rules extends Source.Walk {
        private final Source source;
        private int classes = 0;

        private Rules(Source source) {
            this.source = source;
        }

        private Void never(Tree tree) {
            holds(source.lineOf(tree) + ": no " + tree.getKind(), false);
            return null;
        }

        @Override
        public Void visitThrow(ThrowTree tree, Void none) {
            return never(tree);
        }

        @Override
        public Void visitTry(TryTree tree, Void none) {
            return never(tree);
        }

        @Override
        public Void visitSynchronized(SynchronizedTree tree, Void none) {
            return never(tree);
        }

        @Override
        public Void visitAssert(AssertTree tree, Void none) {
            return never(tree);
        }

        @Override
        public Void visitLambdaExpression(LambdaExpressionTree tree, Void none) {
            return never(tree);
        }

        @Override
        public Void visitMemberReference(MemberReferenceTree tree, Void none) {
            return never(tree);
        }

        @Override
        public Void visitImport(ImportTree tree, Void none) {
            holds(tree + " is listed", IMPORTS.contains(String.valueOf(tree.getQualifiedIdentifier())));
            return none;
        }

        @Override
        public Void visitClass(ClassTree tree, Void none) {
            classes++;
            Tree around = getCurrentPath().getParentPath().getLeaf();
            holds(source.lineOf(tree) + ": no local class, none without a name",
                    around.equals(source.unit()) || around instanceof ClassTree);
            for (Tree member : tree.getMembers()) {
                holds(source.lineOf(member) + ": no static block",
                        !(member instanceof BlockTree) || !((BlockTree) member).isStatic());
            }
            return super.visitClass(tree, none);
        }

        @Override
        public Void visitMethod(MethodTree tree, Void none) {
            holds(tree.getName() + " throws nothing", tree.getThrows().isEmpty());
            holds(tree.getName() + " has some sixty lines at most", source.linesOf(tree) <= MOST_LINES);
            return super.visitMethod(tree, none);
        }

        @Override
        public Void visitMethodInvocation(MethodInvocationTree tree, Void none) {
            Element called = source.elementAt(new TreePath(getCurrentPath(), tree.getMethodSelect()));
            String name = String.valueOf(called.getSimpleName());
            String owner = String.valueOf(called.getEnclosingElement().getSimpleName());
            holds(source.lineOf(tree) + ": " + name + " is listed, or the file's own",
                    isOwn(called) || isListed(owner, name));
            return super.visitMethodInvocation(tree, none);
        }

        private boolean isOwn(Element called) {
            return called.getEnclosingElement().toString().startsWith("JarCouncil");
        }

        @Override
        public Void visitBinary(BinaryTree tree, Void none) {
            boolean isText = tree.getKind() == Tree.Kind.PLUS
                    && source.typeAt(getCurrentPath()).equals("java.lang.String");
            holds(source.lineOf(tree) + ": texts are not joined by +", !isText);
            return super.visitBinary(tree, none);
        }

        private void hasEnd(Tree loop, ExpressionTree until) {
            String told = String.valueOf(until);
            boolean endless = until == null || told.equals("true") || told.equals("(true)");
            holds(source.lineOf(loop) + ": a loop tells its end", !endless);
        }

        @Override
        public Void visitForLoop(ForLoopTree tree, Void none) {
            hasEnd(tree, tree.getCondition());
            return super.visitForLoop(tree, none);
        }

        @Override
        public Void visitWhileLoop(WhileLoopTree tree, Void none) {
            hasEnd(tree, tree.getCondition());
            return super.visitWhileLoop(tree, none);
        }

        @Override
        public Void visitDoWhileLoop(DoWhileLoopTree tree, Void none) {
            hasEnd(tree, tree.getCondition());
            return super.visitDoWhileLoop(tree, none);
        }
    }
}

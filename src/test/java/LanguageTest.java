import java.io.IOException;
import java.lang.reflect.Constructor;
import java.lang.reflect.Field;
import java.lang.reflect.Method;
import java.lang.reflect.Modifier;
import java.nio.file.Files;
import java.nio.file.Path;
import java.util.HashSet;
import java.util.List;
import java.util.Set;
import java.util.TreeSet;
import java.util.regex.Matcher;
import java.util.regex.Pattern;

/** The public face, and the rules of LANGUAGE.md that can be read off the class and its source. */
public final class LanguageTest {
    private static final Path SOURCE = Path.of("src/main/java/JarCouncil.java");
    /** Each call with how many ints it takes; a star: it answers a long. */
    private static final String FACE = "council4 ofSpeaker2 ofWord3 law1 swap2 judge5 worthOf5 choice2 says1 water1"
            + " worth1 together1 owed2* bargain2* motion3 dry2 day4 back1 guess1 byLaw1 share2* sheet3 lose1 put3"
            + " cell3* copy5 tell1 call1 as2 trace0 fault0 many1";
    private static final String CONSTANTS = "UNKNOWN=-1 OUTSIDE=-2 STATE=-3 FULL=-4 NONE=-9"
            + " LOST=-9223372036854775808";
    private static final List<String> FORBIDDEN = List.of("throw", "throws", "try", "catch", "finally",
            "synchronized", "assert", "import", "package", "protected");

    private final Checks checks = new Checks("LanguageTest");

    public static void main(String[] args) throws IOException, IllegalAccessException {
        LanguageTest test = new LanguageTest();
        test.face();
        test.constants();
        test.members(JarCouncil.class);
        for (Class<?> inside : JarCouncil.class.getDeclaredClasses()) {
            test.inside(inside);
        }
        test.source(withoutComments(Files.readString(SOURCE)));
        test.checks.finish();
    }

    private void holds(String what, boolean so) {
        checks.due(what, so ? 1 : 0, 1);
    }

    private void face() {
        Set<String> calls = new TreeSet<>();
        for (Method m : JarCouncil.class.getDeclaredMethods()) {
            if (Modifier.isPublic(m.getModifiers())) {
                boolean ofLong = m.getReturnType() == long.class;
                holds(m + " answers a number", ofLong || m.getReturnType() == int.class);
                holds(m + " is of the object", !Modifier.isStatic(m.getModifiers()));
                for (Class<?> type : m.getParameterTypes()) {
                    holds(m + " takes ints", type == int.class);
                }
                calls.add(m.getName() + m.getParameterCount() + (ofLong ? "*" : ""));
            } else {
                holds(m + " is private", Modifier.isPrivate(m.getModifiers()));
            }
        }
        Set<String> due = new TreeSet<>(List.of(FACE.split(" ")));
        holds("the face is " + due + ", not " + calls, calls.equals(due));
        Constructor<?>[] made = JarCouncil.class.getDeclaredConstructors();
        holds("one public constructor", made.length == 1 && Modifier.isPublic(made[0].getModifiers())
                && made[0].getParameterCount() == 0);
        int of = JarCouncil.class.getModifiers();
        holds("public and final", Modifier.isPublic(of) && Modifier.isFinal(of));
    }

    private void constants() throws IllegalAccessException {
        Set<String> constants = new TreeSet<>();
        for (Field f : JarCouncil.class.getDeclaredFields()) {
            int of = f.getModifiers();
            if (Modifier.isPublic(of)) {
                holds(f + " is a constant", Modifier.isStatic(of) && Modifier.isFinal(of));
                holds(f + "'s type", f.getType() == (f.getName().equals("LOST") ? long.class : int.class));
                constants.add(f.getName() + "=" + f.get(null));
            } else {
                holds(f + " is private", Modifier.isPrivate(of));
            }
        }
        holds("constants " + constants, constants.equals(new TreeSet<>(List.of(CONSTANTS.split(" ")))));
    }

    private void inside(Class<?> inside) {
        holds(inside + " is static", Modifier.isStatic(inside.getModifiers()));
        holds(inside + " is not seen", Modifier.isPrivate(inside.getModifiers()));
        members(inside);
    }

    private void members(Class<?> owner) {
        Set<String> names = new HashSet<>();
        for (Method m : JarCouncil.class.getDeclaredMethods()) {
            if (Modifier.isPublic(m.getModifiers())) {
                names.add(m.getName());
            }
        }
        int fields = 0;
        for (Field f : owner.getDeclaredFields()) {
            boolean isStatic = Modifier.isStatic(f.getModifiers());
            holds(f + " is a constant, or of the object", !isStatic || Modifier.isFinal(f.getModifiers()));
            fields += isStatic ? 0 : 1;
        }
        holds(owner + " has some twenty fields at most", fields <= 20);
        for (Method m : owner.getDeclaredMethods()) {
            holds(m + " takes seven at most", m.getParameterCount() <= 7);
            holds(m + " bears no public name",
                    Modifier.isPublic(m.getModifiers()) || !names.contains(m.getName()));
        }
    }

    private void source(String source) {
        for (String word : FORBIDDEN) {
            holds("no " + word, !Pattern.compile("\\b" + word + "\\b").matcher(source).find());
        }
        holds("no lambda", !source.contains("->"));
        holds("no method reference", !source.contains("::"));
        holds("no text", !source.contains("\""));
        holds("no annotation", !source.contains("@"));
        holds("no library but one constant", !Pattern.compile("\\b(System|Math|Arrays|String|Integer)\\b")
                .matcher(source.replace("Long.MIN_VALUE", "")).find());
        holds("signs are of the common ones", source.chars().allMatch(c -> c < 127));
        oneClassPerRow(source);
        placesAreLookedAt(source);
        divisors(source);
        methodsAreShort(source);
        objectsAreMadeInConstructorsAlone(source);
    }

    private void oneClassPerRow(String source) {
        int classes = 0;
        Matcher m = Pattern.compile("\\bclass\\b").matcher(source);
        while (m.find()) {
            classes++;
        }
        holds("some twelve classes at most", classes <= 12);
    }

    /** Rows are read and written in four lines alone, each behind a look at row and place. */
    private void placesAreLookedAt(String source) {
        String look = "row != null && i >= 0 && i < row.length";
        int[] found = new int[1];
        String before = "";
        for (String line : source.split("\n")) {
            String bare = line.replaceAll("new (int|long)\\[", "(");
            if (Pattern.compile("[A-Za-z0-9_)]\\[[^\\]]").matcher(bare).find()) {
                found[0]++;
                holds("a place is looked at: " + line, line.contains(look) || before.contains(look));
            }
            before = line;
        }
        checks.due("rows are touched in so many lines", found[0], 4);
    }

    /** Each divisor is a constant, or tested where it divides. */
    private void divisors(String source) {
        List<String> fine = List.of("10", "2", "LEVELS", "MOST_WORDS", "people.count", "part", "smaller");
        Matcher m = Pattern.compile("[/%] *([A-Za-z_.0-9]+)").matcher(source);
        while (m.find()) {
            holds("divisor " + m.group(1), fine.contains(m.group(1)));
        }
        holds("people.count is tested", source.contains("people.count > 0 ? people.jar / people.count"));
        holds("part is tested", source.contains("if (part <= 0) {"));
        holds("smaller is tested", source.contains("smaller > 0; step++"));
    }

    private void methodsAreShort(String source) {
        int length = 0;
        for (String line : source.split("\n")) {
            length = line.matches(" {4}( {4})?(public|private).*\\) \\{") ? 0 : length + 1;
            if (line.matches(" {4}( {4})?\\}")) {
                holds("sixty lines at most ahead of the end of a method", length <= 60 || line.equals("    }"));
            }
        }
    }

    private void objectsAreMadeInConstructorsAlone(String source) {
        String inMethods = source.replaceAll("= new (int|long)\\[[A-Z_ *]+\\];", "");
        int from = inMethods.indexOf("public JarCouncil()");
        int to = inMethods.indexOf("private static int at(");
        holds("no call makes an object", from > 0 && to > from
                && !Pattern.compile("\\bnew\\b").matcher(inMethods.substring(0, from)).find()
                && !Pattern.compile("\\bnew\\b").matcher(inMethods.substring(to)).find());
    }

    private static String withoutComments(String source) {
        return source.replaceAll("(?s)/\\*.*?\\*/", "").replaceAll("//[^\n]*", "");
    }
}

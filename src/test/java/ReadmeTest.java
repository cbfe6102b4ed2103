import java.io.IOException;
import java.lang.reflect.Method;
import java.nio.file.Files;
import java.nio.file.Path;
import java.util.regex.Matcher;
import java.util.regex.Pattern;

/** The example of README.md, line by line: a call, and behind // what it answers. */
public final class ReadmeTest {
    private static final Pattern TEXT = Pattern.compile("String text = \"(.*)\";");
    private static final Pattern CALL = Pattern.compile("x\\.(\\w+)\\(([-0-9, ]*)\\); +// (-?\\d+): .*");
    private static final String FILLS = "    x.put(0, i, text.charAt(i));";
    private static final int FEWEST = 25;

    public static void main(String[] args) throws IOException, ReflectiveOperationException {
        Checks checks = new Checks("ReadmeTest");
        JarCouncil x = new JarCouncil();
        String text = "";
        int calls = 0;
        for (String line : example().split("\n")) {
            Matcher told = TEXT.matcher(line);
            Matcher call = CALL.matcher(line);
            if (told.matches()) {
                text = told.group(1);
            } else if (line.equals(FILLS)) {
                fill(x, text);
            } else if (call.matches()) {
                calls++;
                checks.due(line, answer(x, call.group(1), call.group(2)), Long.parseLong(call.group(3)));
            } else {
                checks.due("no call in: " + line, line.contains("x.") ? 1 : 0, 0);
            }
        }
        checks.due("so many calls stand there", Math.max(calls, FEWEST), calls);
        checks.finish();
    }

    private static String example() throws IOException {
        String readme = Files.readString(Path.of("README.md"));
        int from = readme.indexOf("```java\n") + "```java\n".length();
        return readme.substring(from, readme.indexOf("```", from));
    }

    private static void fill(JarCouncil x, String text) {
        for (int i = 0; i < text.length(); i++) {
            x.put(0, i, text.charAt(i));
        }
    }

    private static long answer(JarCouncil x, String name, String list) throws ReflectiveOperationException {
        String[] told = list.isEmpty() ? new String[0] : list.split(", ");
        Object[] numbers = new Object[told.length];
        Class<?>[] types = new Class<?>[told.length];
        for (int i = 0; i < told.length; i++) {
            numbers[i] = Integer.valueOf(told[i]);
            types[i] = int.class;
        }
        Method method = JarCouncil.class.getMethod(name, types);
        return ((Number) method.invoke(x, numbers)).longValue();
    }
}

import java.io.File;
import java.lang.reflect.Field;
import java.lang.reflect.Method;
import java.lang.reflect.Modifier;
import java.nio.file.Files;
import java.nio.file.Path;
import java.util.HashMap;
import java.util.Map;
import java.util.regex.Matcher;
import java.util.regex.Pattern;

/** README.md: its code gives the answers behind it, and every call, code and test is named. */
public final class ReadmeTest {
    private static final Pattern CALL =
        Pattern.compile("(?:int (\\w+) = )?x\\.(\\w+)\\((.*)\\); *// (-?\\d+)(?::.*)?");
    private static final Map<String, Integer> NAMED = new HashMap<>();

    public static void main(String[] args) throws Exception {
        String readme = Files.readString(Path.of("README.md"));
        code(readme);
        namesOfTheFace(readme);
        namesOfTests(readme);
        Checks.finish();
    }

    private static void code(String readme) throws Exception {
        Checks.part("the code of README.md");
        Matcher block = Pattern.compile("(?s)```java\n(.*?)```").matcher(readme);
        Checks.holds("README.md shows code", block.find());
        String[] lines = block.group(1).split("\n");
        Checks.holds("it makes an object", lines[0].equals("ShorthandOutlines x = new ShorthandOutlines();"));
        ShorthandOutlines x = new ShorthandOutlines();
        for (int i = 1; i < lines.length; i++) {
            Matcher call = CALL.matcher(lines[i]);
            boolean understood = call.matches();
            Checks.holds("a call with its answer: " + lines[i], understood);
            if (understood) {
                int answer = make(x, call.group(2), call.group(3));
                Checks.due(lines[i], answer, Integer.parseInt(call.group(4)));
                NAMED.put(call.group(1), answer);
            }
        }
    }

    private static int make(ShorthandOutlines x, String name, String arguments) throws Exception {
        String[] given = arguments.isEmpty() ? new String[0] : arguments.split(", *");
        Class<?>[] types = new Class<?>[given.length];
        Object[] values = new Object[given.length];
        for (int i = 0; i < given.length; i++) {
            types[i] = int.class;
            values[i] = value(given[i]);
        }
        return (Integer) ShorthandOutlines.class.getMethod(name, types).invoke(x, values);
    }

    private static int value(String given) {
        if (given.startsWith("'")) {
            return given.charAt(1);
        }
        return NAMED.containsKey(given) ? NAMED.get(given) : Integer.parseInt(given);
    }

    private static void namesOfTheFace(String readme) {
        Checks.part("the names in README.md");
        for (Method m : ShorthandOutlines.class.getDeclaredMethods()) {
            boolean open = Modifier.isPublic(m.getModifiers());
            Checks.holds("names " + m.getName(), !open || readme.contains("`" + m.getName() + "`"));
        }
        for (Field f : ShorthandOutlines.class.getDeclaredFields()) {
            boolean open = Modifier.isPublic(f.getModifiers());
            Checks.holds("names " + f.getName(), !open || readme.contains("`" + f.getName() + "`"));
        }
    }

    private static void namesOfTests(String readme) {
        String[] files = new File("src/test/java").list((folder, name) -> name.endsWith("Test.java"));
        Checks.holds("there are tests", files != null && files.length > 0);
        for (String file : files) {
            String test = file.replace(".java", "");
            Checks.holds("names " + test, readme.contains("| `" + test + "` |"));
        }
    }
}

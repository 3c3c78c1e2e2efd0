import java.io.IOException;
import java.lang.reflect.Field;
import java.lang.reflect.InvocationTargetException;
import java.lang.reflect.Method;
import java.lang.reflect.Modifier;
import java.nio.file.Files;
import java.nio.file.Path;
import java.util.HashMap;
import java.util.List;
import java.util.Map;
import java.util.regex.Matcher;
import java.util.regex.Pattern;

/** README.md: its example answers what its comments say, and its table has every call and constant. */
final class ReadmeTest {
    private static final Pattern CALL =
            Pattern.compile("(?:int (\\w+) = )?group\\.(\\w+)\\(([^)]*)\\);(?: +// (-?\\d+|true|false)\\b.*)?");

    private final Causewaymail group = new Causewaymail();
    private final Map<String, Integer> named = new HashMap<>();

    private ReadmeTest() { }

    static void all() {
        Check.test("README.md: the example answers as it says", () -> new ReadmeTest().runExample());
        Check.test("README.md: every call and constant is named", ReadmeTest::namesAll);
    }

    private static List<String> lines() {
        try {
            return Files.readAllLines(Path.of("README.md"));
        } catch (IOException e) {
            throw new IllegalStateException(e);
        }
    }

    private void runExample() {
        List<String> all = lines();
        int begin = all.indexOf("```java");
        List<String> rest = all.subList(begin + 1, all.size());
        List<String> example = rest.subList(0, rest.indexOf("```"));
        Check.same("the first line is", example.get(0) + "\n", "Causewaymail group = new Causewaymail();\n");
        for (String line : example.subList(1, example.size())) {
            runLine(line);
        }
        Check.same("it has calls", example.size() > 10, true);
    }

    private void runLine(String line) {
        Matcher call = CALL.matcher(line);
        if (!call.matches()) {
            Check.wrong("can't read " + line);
            return;
        }
        Object answer = answer(call.group(2), arguments(call.group(3)));
        if (call.group(1) != null) {
            named.put(call.group(1), (Integer) answer);
        }
        Check.same(line, answer + "\n", call.group(4) + "\n");
    }

    private int[] arguments(String text) {
        if (text.isEmpty()) {
            return new int[0];
        }
        String[] words = text.split(", ");
        int[] numbers = new int[words.length];
        for (int i = 0; i < words.length; i++) {
            numbers[i] = named.containsKey(words[i]) ? named.get(words[i]) : Integer.parseInt(words[i]);
        }
        return numbers;
    }

    /** What the call answers; null for one that answers nothing. */
    private Object answer(String name, int[] arguments) {
        Object[] given = new Object[arguments.length];
        Class<?>[] types = new Class<?>[arguments.length];
        for (int i = 0; i < arguments.length; i++) {
            given[i] = arguments[i];
            types[i] = int.class;
        }
        try {
            return Causewaymail.class.getMethod(name, types).invoke(group, given);
        } catch (NoSuchMethodException | IllegalAccessException | InvocationTargetException e) {
            return e.toString();
        }
    }

    private static void namesAll() {
        String table = String.join("\n", lines());
        for (Method method : Causewaymail.class.getDeclaredMethods()) {
            boolean open = Modifier.isPublic(method.getModifiers());
            Check.same(method.getName(), !open || table.contains("\n| `" + method.getName() + "("), true);
        }
        for (Field field : Causewaymail.class.getDeclaredFields()) {
            boolean open = Modifier.isPublic(field.getModifiers());
            Check.same(field.getName(), !open || table.contains("`" + field.getName() + "` "), true);
        }
    }
}

import java.io.IOException;
import java.lang.reflect.InvocationTargetException;
import java.lang.reflect.Method;
import java.lang.reflect.Modifier;
import java.nio.file.Files;
import java.nio.file.Path;
import java.util.List;
import java.util.regex.Matcher;
import java.util.regex.Pattern;
import java.util.stream.Stream;

/** Holds README.md against the class: each call and each test is told, and its example answers as it says. */
public final class ReadmeTest {
    private static final Pattern LINE = Pattern.compile("mill\\.(\\w+)\\((.*)\\);\\s*// (.*)");
    private static final Due DUE = new Due();

    public static void main(String[] args) throws Exception {
        String readme = Files.readString(Path.of(System.getProperty("readme", "README.md")));
        calls(readme);
        tests(readme);
        example(readme);
        DUE.end();
    }

    private static void calls(String readme) {
        for (Method method : PrefixMill.class.getDeclaredMethods()) {
            if (Modifier.isPublic(method.getModifiers())) {
                Pattern row = Pattern.compile("\\| `" + method.getName() + "\\(([^`]*)\\)` \\|");
                Matcher found = row.matcher(readme);
                int told = found.find() ? arguments(found.group(1)).length : -1;
                DUE.same(method.getName() + " is told with its arguments", told, method.getParameterCount());
            }
        }
    }

    private static void tests(String readme) throws IOException {
        Path folder = Path.of(System.getProperty("tests", "src/test/java"));
        try (Stream<Path> files = Files.list(folder)) {
            List<String> names = files.map(file -> file.getFileName().toString())
                    .filter(name -> name.endsWith("Test.java"))
                    .map(name -> name.substring(0, name.length() - ".java".length())).toList();
            for (String name : names) {
                DUE.same(name + " is told", readme.contains("| `" + name + "` |"), true);
            }
        }
    }

    private static void example(String readme) throws Exception {
        String from = readme.substring(readme.indexOf("```java") + "```java".length());
        List<String> lines = from.substring(0, from.indexOf("```")).strip().lines().toList();
        DUE.same("the example begins with a new object",
                lines.get(0).equals("PrefixMill mill = new PrefixMill();"), true);
        PrefixMill mill = new PrefixMill();
        for (String line : lines.subList(1, lines.size())) {
            Matcher call = LINE.matcher(line);
            if (call.matches()) {
                answer(line, call.group(3), call(mill, call.group(1), arguments(call.group(2))));
            } else {
                DUE.fail("no call with its answer: " + line);
            }
        }
    }

    private static void answer(String line, String told, Object got) {
        if (got != null) {
            DUE.same(line + " answered " + got, told.startsWith(got + ":"), true);
        }
    }

    private static String[] arguments(String text) {
        return text.isBlank() ? new String[0] : text.split(", ");
    }

    private static Object call(PrefixMill mill, String name, String[] words)
            throws IllegalAccessException, InvocationTargetException {
        for (Method method : PrefixMill.class.getMethods()) {
            if (method.getName().equals(name) && method.getParameterCount() == words.length) {
                Object[] values = new Object[words.length];
                for (int i = 0; i < words.length; i++) {
                    values[i] = value(words[i], method.getParameterTypes()[i]);
                }
                return method.invoke(mill, values);
            }
        }
        throw new IllegalArgumentException("no call " + name);
    }

    private static Object value(String word, Class<?> type) {
        if (type == boolean.class) {
            return Boolean.valueOf(word);
        }
        if (type == long.class) {
            return Long.decode(word.replace("L", ""));
        }
        return Integer.decode(word);
    }
}

import java.io.IOException;
import java.lang.reflect.InvocationTargetException;
import java.lang.reflect.Method;
import java.nio.file.Files;
import java.nio.file.Path;
import java.util.ArrayList;
import java.util.Comparator;
import java.util.LinkedHashMap;
import java.util.List;
import java.util.Map;

/**
 * Runs the tests of boundary cases, and holds them against the document: the sentence that a test
 * names stands in its promise or in the terms, and every sentence there has a test.
 */
public final class EdgesTest {
    private static final Class<?>[] TESTS = {
        RowEdges.class, CodeEdges.class, DescriptionEdges.class, StreamEdges.class
    };
    private static final String TERMS = "Terms";
    private static final String ALL = "What it is";
    private static final int PROMISES = 19;
    private static final Due DUE = new Due();

    public static void main(String[] args) throws IOException {
        List<Method> tests = tests();
        for (Method test : tests) {
            run(test);
        }
        DUE.name("the document");
        Path path = Path.of(System.getProperty("document", "../shared/DOC.md"));
        if (Files.exists(path)) {
            compare(tests, sections(Files.readString(path)));
        } else {
            System.out.println(path + " is not there: no sentence was looked for in it");
        }
        System.out.println(tests.size() + " tests of boundary cases");
        DUE.end();
    }

    private static List<Method> tests() {
        List<Method> tests = new ArrayList<>();
        for (Class<?> type : TESTS) {
            for (Method method : type.getDeclaredMethods()) {
                if (method.isAnnotationPresent(Edge.class)) {
                    tests.add(method);
                }
            }
        }
        tests.sort(Comparator.comparingInt((Method m) -> m.getAnnotation(Edge.class).promise())
                .thenComparing(Method::getName));
        return tests;
    }

    private static void run(Method test) {
        Edge edge = test.getAnnotation(Edge.class);
        DUE.name("promise " + edge.promise() + ", \"" + edge.says() + "\", " + test.getName());
        try {
            test.invoke(null, DUE);
        } catch (InvocationTargetException thrown) {
            DUE.fail("threw " + thrown.getCause());
        } catch (IllegalAccessException hidden) {
            DUE.fail("can't be called: " + hidden);
        }
    }

    /** Blanks are one, and the dots of "0 .. 255" are no ends of sentences. */
    private static String plain(String text) {
        return text.replace("```text", " ").replace("```", " ").replaceAll("\\s+", " ").replace(" .. ", " \u2026 ");
    }

    /** The sections by their names; a promise is named by its number. */
    private static Map<String, String> sections(String document) {
        Map<String, String> sections = new LinkedHashMap<>();
        for (String section : document.split("(?m)^## ")) {
            String name = section.lines().findFirst().orElse("");
            String text = plain(section.substring(name.length())).trim();
            if (name.startsWith("Promise ")) {
                name = name.substring("Promise ".length(), name.indexOf(':'));
                text = text.substring(text.indexOf("`: ") + 3);
            }
            sections.put(name, text);
        }
        return sections;
    }

    private static void compare(List<Method> tests, Map<String, String> sections) {
        Map<String, boolean[]> quoted = new LinkedHashMap<>();
        sections.forEach((name, text) -> quoted.put(name, new boolean[text.length()]));
        for (Method test : tests) {
            Edge edge = test.getAnnotation(Edge.class);
            String says = plain(edge.says());
            boolean found = false;
            for (String name : new String[] {String.valueOf(edge.promise()), TERMS, ALL}) {
                int from = sections.get(name).indexOf(says);
                found |= from >= 0;
                for (int i = 0; from >= 0 && i < says.length(); i++) {
                    quoted.get(name)[from + i] = true;
                }
            }
            DUE.same(test.getName() + " names words of promise " + edge.promise(), found, true);
        }
        everySentence(TERMS, sections.get(TERMS), quoted.get(TERMS));
        for (int promise = 1; promise <= PROMISES; promise++) {
            String name = String.valueOf(promise);
            everySentence("promise " + name, sections.get(name), quoted.get(name));
        }
    }

    private static void everySentence(String name, String text, boolean[] quoted) {
        int from = 0;
        for (String sentence : text.split("(?<=[.;]) ")) {
            boolean seen = false;
            for (int i = from; i < from + sentence.length(); i++) {
                seen |= quoted[i];
            }
            DUE.same(name + " has a test for \"" + sentence + "\"", seen, true);
            from += sentence.length() + 1;
        }
    }
}

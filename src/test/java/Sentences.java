import java.io.IOException;
import java.lang.reflect.InvocationTargetException;
import java.lang.reflect.Method;
import java.nio.file.Files;
import java.nio.file.Path;
import java.util.ArrayList;
import java.util.Comparator;
import java.util.List;
import java.util.Map;
import java.util.TreeMap;

/**
 * Runs every method that bears {@link Says}, so that none is forgotten, and looks whether the sentences
 * that they quote stand in the document, and whether the document has none that is quoted by no test.
 */
final class Sentences {
    /** What the document says under "Terms", and under "What it is". */
    static final int TERMS = 0, USE = -1;
    private static final int PROMISES = 23;

    private Sentences() {
    }

    static void run(String document, Class<?>... tests) throws IOException {
        Map<Integer, List<String>> quoted = new TreeMap<>();
        for (Class<?> test : tests) {
            List<Method> methods = new ArrayList<>(List.of(test.getDeclaredMethods()));
            methods.sort(Comparator.comparing(Method::getName));
            for (Method method : methods) {
                Says says = method.getAnnotation(Says.class);
                if (says != null) {
                    quoted.computeIfAbsent(says.promise(), any -> new ArrayList<>()).add(says.words());
                    call(method, says);
                }
            }
        }
        Path path = Path.of(document);
        if (Files.isReadable(path)) {
            compare(quoted, Files.readString(path).replaceAll("\\s+", " "));
        } else {
            System.out.println("no document at " + document + ": the tests' quotes are not compared with it");
        }
    }

    private static void call(Method method, Says says) {
        Due.begin(method.getDeclaringClass().getName() + "." + method.getName() + " (" + says.promise() + ": "
            + says.words() + ")");
        int before = Due.asked();
        try {
            method.setAccessible(true);
            method.invoke(null);
        } catch (InvocationTargetException | IllegalAccessException thrown) {
            Due.holds("it ends without " + thrown.getCause(), false);
        }
        Due.holds("it asks something", Due.asked() > before);
        Due.begin("");
    }

    private static void compare(Map<Integer, List<String>> quoted, String document) {
        for (int promise = USE; promise <= PROMISES; promise++) {
            String section = section(document, promise);
            boolean[] covered = new boolean[section.length()];
            for (String words : quoted.getOrDefault(promise, List.of())) {
                int from = section.indexOf(words);
                Due.holds("the document says, of " + promise + ": " + words, from >= 0);
                for (int at = from; at >= 0 && at < from + words.length(); at++) {
                    covered[at] = true;
                }
            }
            int last = 0;
            for (int at = 0; at < section.length(); at++) {
                if (!covered[at] && Character.isLetterOrDigit(section.charAt(at))) {
                    Due.holds("some test quotes, of " + promise + ": " + section.substring(at), false);
                    break;
                }
                last = at;
            }
            Due.holds("there is a section " + promise, last > 0);
        }
    }

    private static String section(String document, int promise) {
        switch (promise) {
            case USE:
                return between(document, "learns from what cannot be. ", "## The public face");
            case TERMS:
                return between(document, "## Terms ======== 1 ", "Ahead of the calls")
                    .replace(" ======== 2 ", " ").replace(" ```text ", " ").replace(" ``` ", " ");
            default:
                String next = promise < PROMISES ? "## Promise " + (promise + 1) + ":" : "## Not promised";
                return between(between(document, "## Promise " + promise + ":", next), ")`: ", "");
        }
    }

    private static String between(String text, String begin, String end) {
        int from = text.indexOf(begin);
        int to = end.isEmpty() ? text.length() : text.indexOf(end);
        return from < 0 || to < from ? "" : text.substring(from + begin.length(), to);
    }
}

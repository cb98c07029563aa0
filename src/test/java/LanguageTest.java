import java.io.IOException;
import java.lang.reflect.Constructor;
import java.lang.reflect.Field;
import java.lang.reflect.Method;
import java.lang.reflect.Modifier;
import java.nio.file.Files;
import java.nio.file.Path;
import java.util.Set;
import java.util.TreeSet;
import java.util.regex.Matcher;
import java.util.regex.Pattern;

/** The document's face, and those rules of LANGUAGE.md that can be seen from outside. */
final class LanguageTest {
    private static final String[] FACE = {
        "variables(int)", "literal(int)", "clause()", "drop()", "at(int,int)", "sat(int)", "value(int)",
        "model(int,int)", "models()", "forced(int)", "culprit()", "facts(int)", "action(int,int,int)",
        "set(int,int)", "plan(int)", "step(int,int)", "state(int,int)", "shortest()", "plans(int)",
        "code(int,int)", "coded(int,int,int)", "count(int)",
    };
    private static final String[] FORBIDDEN = {
        "\\bthrow\\b", "\\btry\\b", "\\bcatch\\b", "\\bsynchronized\\b", "\\bassert\\b", "->", "::", "\\bimport\\b",
        "\\bdouble\\b", "\\bfloat\\b", "Exact\\b", "\\bequals\\b", "\\bhashCode\\b", "\\btoString\\b", "\\bpackage\\b",
    };
    private static final String[] LIBRARY = {"Math.abs", "Math.min", "Math.max", "Integer.bitCount", "Integer.numberOfTrailingZeros", "System.arraycopy"};
    private static final int MOST_LINES = 60;

    private LanguageTest() {
    }

    static void run(String source) throws IOException {
        face();
        constants();
        nested();
        String text = Files.readString(Path.of(source));
        words(text.replaceAll("(?s)/\\*.*?\\*/", "").replaceAll("//.*", ""));
        lengths(text);
    }

    private static void face() {
        Set<String> due = new TreeSet<>(Set.of(FACE));
        Set<String> there = new TreeSet<>();
        for (Method method : PlanClauses.class.getDeclaredMethods()) {
            if (!Modifier.isPrivate(method.getModifiers())) {
                String types = method.toString().replaceAll(".*\\(", "(");
                there.add(method.getName() + types);
                Due.holds(method + " is public and answers an int", Modifier.isPublic(method.getModifiers())
                    && !Modifier.isStatic(method.getModifiers()) && method.getReturnType() == int.class);
            }
        }
        Due.holds("face: " + there, there.equals(due));
        Constructor<?>[] made = PlanClauses.class.getDeclaredConstructors();
        Due.holds("one public constructor of nothing", made.length == 1
            && Modifier.isPublic(made[0].getModifiers()) && made[0].getParameterCount() == 0);
        int modifiers = PlanClauses.class.getModifiers();
        Due.holds("public and final", Modifier.isPublic(modifiers) && Modifier.isFinal(modifiers));
    }

    private static void constants() {
        Due.is("BAD", PlanClauses.BAD, -1);
        Due.is("STATE", PlanClauses.STATE, -2);
        Due.is("FULL", PlanClauses.FULL, -3);
        Due.is("NONE", PlanClauses.NONE, -9);
        Due.is("NOTHING", PlanClauses.NOTHING, -7);
        int open = 0;
        for (Field field : PlanClauses.class.getDeclaredFields()) {
            if (!Modifier.isPrivate(field.getModifiers())) {
                open++;
            }
        }
        Due.is("public fields", open, 5);
    }

    private static void nested() {
        Set<String> names = new TreeSet<>();
        for (String one : FACE) {
            names.add(one.replaceAll("\\(.*", ""));
        }
        for (Class<?> inside : PlanClauses.class.getDeclaredClasses()) {
            Due.holds(inside + " is static", Modifier.isStatic(inside.getModifiers()));
            for (Method method : inside.getDeclaredMethods()) {
                Due.holds(method + " bears no public name", !names.contains(method.getName()));
            }
            Due.holds(inside + " has not too many fields", inside.getDeclaredFields().length <= 20);
        }
        Due.holds("not too many classes", PlanClauses.class.getDeclaredClasses().length < 12);
    }

    private static void words(String text) {
        for (String word : FORBIDDEN) {
            Due.holds("no " + word, !Pattern.compile(word).matcher(text).find());
        }
        Set<String> library = Set.of(LIBRARY);
        Matcher call = Pattern.compile("\\b[A-Z]\\w*[a-z]\\w*\\.\\w+").matcher(text);
        while (call.find()) {
            Due.holds("library: " + call.group(), library.contains(call.group()));
        }
        for (int i = 0; i < text.length(); i++) {
            Due.holds("plain signs", text.charAt(i) < 128);
        }
    }

    private static void lengths(String text) {
        String[] lines = text.split("\n");
        int begin = -1;
        for (int i = 0; i < lines.length; i++) {
            if (lines[i].matches(" {4,8}[\\w ]+\\(.*\\) \\{")) {
                begin = i;
            }
            if (lines[i].matches(" {4,8}\\}") && begin >= 0) {
                Due.holds("short enough, line " + (begin + 1), i - begin < MOST_LINES);
                begin = -1;
            }
        }
    }
}

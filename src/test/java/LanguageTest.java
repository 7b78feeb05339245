import java.io.IOException;
import java.lang.reflect.Field;
import java.lang.reflect.Method;
import java.lang.reflect.Modifier;
import java.nio.file.Files;
import java.nio.file.Path;
import java.util.ArrayList;
import java.util.HashSet;
import java.util.List;
import java.util.Map;
import java.util.Set;
import java.util.TreeMap;
import java.util.regex.Matcher;
import java.util.regex.Pattern;

/** The rules of ../shared/LANGUAGE.md that can be seen from the class and its text; run from the project's directory. */
public final class LanguageTest {
    private static final Check CHECK = new Check("LanguageTest");
    private static final Set<String> CONSTANTS = Set.of("int", "long", "boolean", "char", "String");
    private static final Set<String> THROWN = Set.of("IllegalStateException", "IllegalArgumentException",
        "IndexOutOfBoundsException");
    /** What this class has no need of, whether the rules forbid it or tie it to conditions. */
    private static final String UNUSED = "->|::|\\b(synchronized|assert|finally|try|catch|instanceof|native|volatile|"
        + "transient|double|float|while|do|equals|hashCode|toString|getMessage|package|protected|\\w+Exact)\\b";
    private static final Pattern METHOD = Pattern.compile(
        "(?m)^( +)(?:public |private |static |final )*+[\\w\\[\\]]+ (\\w+)\\([^)]*\\)[^{;=]*\\{$");

    private final List<Class<?>> classes = new ArrayList<>();
    private final String text;
    /** The body of each method by its name. */
    private final Map<String, String> bodies = new TreeMap<>();

    private LanguageTest(String source) {
        text = source.replaceAll("(?s)/\\*.*?\\*/|//[^\n]*", "").replaceAll("\"[^\"\n]*\"", "\"\"");
        classes.add(PlaneFaces.class);
        classes.addAll(List.of(PlaneFaces.class.getDeclaredClasses()));
        Matcher method = METHOD.matcher(text);
        while (method.find()) {
            int end = text.indexOf("\n" + method.group(1) + "}\n", method.end());
            CHECK.equal("methods named " + method.group(2), 0, bodies.containsKey(method.group(2)) ? 1 : 0);
            bodies.put(method.group(2), text.substring(method.end(), end));
        }
    }

    public static void main(String[] args) throws IOException {
        LanguageTest test = new LanguageTest(Files.readString(Path.of("src/main/java/PlaneFaces.java")));
        CHECK.sentence("1: the face", test::face);
        CHECK.sentence("4: the library", test::library);
        CHECK.sentence("5: static fields", test::staticFields);
        CHECK.sentence("6: exceptions", test::exceptions);
        CHECK.sentence("2, 3, 4, 6: nothing that is ruled out", test::words);
        CHECK.sentence("9: every loop has an end that can be seen", test::loops);
        CHECK.sentence("8, 11: calls go at most eight deep, none calls itself", test::depth);
        CHECK.sentence("11: short methods, few classes and fields", test::sizes);
        CHECK.sentence("12: what a run makes is made in constructors", test::made);
        CHECK.end();
    }

    private void face() {
        Set<String> face = new HashSet<>();
        for (Method m : PlaneFaces.class.getDeclaredMethods()) {
            if (Modifier.isPublic(m.getModifiers())) {
                face.add(m.getName());
            }
        }
        CHECK.equal("public methods", 14, face.size());
        for (Class<?> c : classes) {
            if (c != PlaneFaces.class) {
                CHECK.equal(c.getName(), "private static final", Modifier.toString(c.getModifiers()));
            }
            for (Method m : c.getDeclaredMethods()) {
                CHECK.equal(m.toString(), Modifier.isPublic(m.getModifiers()), face.contains(m.getName()));
            }
        }
    }

    private void library() {
        Matcher used = Pattern.compile("\\b(import [^;]+|(?:Arrays|Math|Integer|Long|System|String)\\.\\w+)").matcher(text);
        Set<String> allowed = Set.of("import java.util.Arrays", "Arrays.fill", "Math.max", "Math.min", "Math.abs");
        while (used.find()) {
            CHECK.equal(used.group(), true, allowed.contains(used.group()));
        }
    }

    private void staticFields() {
        for (Class<?> c : classes) {
            for (Field f : c.getDeclaredFields()) {
                if (Modifier.isStatic(f.getModifiers())) {
                    boolean constant = Modifier.isFinal(f.getModifiers()) && CONSTANTS.contains(f.getType().getSimpleName());
                    CHECK.equal(f.toString(), true, constant);
                }
            }
        }
    }

    private void exceptions() {
        Matcher thrown = Pattern.compile("\\bthrow\\b(?: new (\\w+)\\((?:\"\")?\\);)?").matcher(text);
        while (thrown.find()) {
            CHECK.equal(thrown.group(), true, thrown.group(1) != null && THROWN.contains(thrown.group(1)));
        }
    }

    private void words() {
        Matcher found = Pattern.compile(UNUSED).matcher(text);
        CHECK.equal("words", "none", found.find() ? found.group() : "none");
    }

    /** More than the rule asks: each loop counts by one from 0 up to a bound. */
    private void loops() {
        Matcher loop = Pattern.compile("\\bfor \\(([^;]*);([^;]*);([^{]*)\\{").matcher(text);
        int counted = 0;
        while (loop.find()) {
            String at = loop.group(1).replaceAll("int (\\w+) = 0", "$1");
            CHECK.equal(loop.group(), true, loop.group(3).trim().equals(at + "++)"));
            CHECK.equal(loop.group(), true,
                loop.group(2).matches(" " + at + " < (SEGMENTS|HALVES|size|pieces|rounds\\.size|rounds\\.pieces)\\b.*"));
            counted++;
        }
        CHECK.equal("loops", text.split("\\bfor\\b", -1).length - 1, counted);
    }

    private void depth() {
        for (String method : bodies.keySet()) {
            CHECK.equal("calls open at once in " + method, true, open(method, 1) <= 8);
        }
    }

    private int open(String method, int level) {
        int most = level;
        Matcher call = Pattern.compile("\\b(\\w+)\\(").matcher(bodies.get(method));
        while (level <= 8 && call.find()) {
            boolean library = bodies.get(method).substring(0, call.start()).endsWith("Arrays.")
                || bodies.get(method).substring(0, call.start()).endsWith("Math.");
            if (!library && bodies.containsKey(call.group(1))) {
                most = Math.max(most, open(call.group(1), level + 1));
            }
        }
        return most;
    }

    private void sizes() {
        CHECK.equal("classes", true, classes.size() <= 12);
        for (Class<?> c : classes) {
            int fields = 0;
            for (Field f : c.getDeclaredFields()) {
                fields += Modifier.isStatic(f.getModifiers()) ? 0 : 1;
            }
            CHECK.equal("fields of " + c.getName(), true, fields <= 20);
            for (Method m : c.getDeclaredMethods()) {
                CHECK.equal("parameters of " + m, true, m.getParameterCount() <= 7);
                CHECK.equal("the text of " + m, true, bodies.containsKey(m.getName()));
            }
        }
        for (Map.Entry<String, String> method : bodies.entrySet()) {
            CHECK.equal("lines of " + method.getKey(), true, method.getValue().lines().count() <= 60);
        }
    }

    private void made() {
        for (Map.Entry<String, String> method : bodies.entrySet()) {
            boolean makes = Pattern.compile("(?<!throw )\\bnew\\b").matcher(method.getValue()).find();
            CHECK.equal("new in " + method.getKey(), false, makes);
        }
    }
}

import java.io.IOException;
import java.lang.reflect.InvocationTargetException;
import java.lang.reflect.Method;
import java.nio.file.Files;
import java.nio.file.Path;
import java.util.TreeSet;
import java.util.regex.Matcher;
import java.util.regex.Pattern;

/** README.md: its example answers what it says there, and it tells each promise as the document does. */
public final class ReadmeTest {
    private static final Check CHECK = new Check("ReadmeTest");
    private static final Pattern EXAMPLE = Pattern.compile("(?m)^plane\\.(\\w+)\\(([^)]*)\\); +// ([-\\w]+)");
    private static final Pattern PROMISE = Pattern.compile("(?m)^`([^`]*\\))(?: throws [^`]*)?`: (.*)$");

    public static void main(String[] args) throws IOException {
        String readme = Files.readString(Path.of("README.md"));
        String document = Files.readString(Path.of("../shared/DOC.md"));
        CHECK.sentence("the example", () -> example(readme));
        CHECK.sentence("what each call answers", () -> calls(readme, document));
        CHECK.end();
    }

    private static void example(String readme) {
        PlaneFaces plane = new PlaneFaces();
        TreeSet<String> shown = new TreeSet<>();
        Matcher line = EXAMPLE.matcher(readme);
        while (line.find()) {
            CHECK.equal(line.group(), line.group(3), answer(plane, line.group(1), line.group(2)));
            shown.add(line.group(1));
        }
        for (Method method : PlaneFaces.class.getMethods()) {
            if (method.getDeclaringClass() == PlaneFaces.class) {
                CHECK.equal("the example shows " + method.getName(), true, shown.contains(method.getName()));
            }
        }
    }

    private static String answer(PlaneFaces plane, String name, String arguments) {
        String[] words = arguments.isEmpty() ? new String[0] : arguments.split(", ");
        Object[] values = new Object[words.length];
        for (int i = 0; i < words.length; i++) {
            boolean flag = words[i].equals("true") || words[i].equals("false");
            values[i] = flag ? (Object) Boolean.valueOf(words[i]) : (Object) Integer.valueOf(words[i]);
        }
        for (Method method : PlaneFaces.class.getMethods()) {
            if (method.getDeclaringClass() == PlaneFaces.class && method.getName().equals(name)) {
                return told(plane, method, values);
            }
        }
        return "no such method";
    }

    private static String told(PlaneFaces plane, Method method, Object[] values) {
        try {
            return String.valueOf(method.invoke(plane, values));
        } catch (InvocationTargetException e) {
            return e.getCause().getClass().getSimpleName();
        } catch (IllegalAccessException e) {
            return "not public";
        }
    }

    private static void calls(String readme, String document) {
        Matcher promise = PROMISE.matcher(document);
        int promises = 0;
        while (promise.find()) {
            String row = "| `" + promise.group(1) + "` | " + promise.group(2) + " |";
            CHECK.equal(row, true, readme.contains(row));
            promises++;
        }
        CHECK.equal("promises", 15, promises);
    }
}

import java.io.IOException;
import java.lang.reflect.Method;
import java.lang.reflect.Modifier;
import java.nio.file.Files;
import java.nio.file.Path;
import java.util.Set;
import java.util.TreeSet;
import java.util.regex.Matcher;
import java.util.regex.Pattern;

/** The example of README.md, line by line as it stands there, so that the page can't tell wrong answers. */
public final class ReadmeTest {
    private static final Pattern LINE = Pattern.compile("table\\.(\\w+)\\((.*)\\);\\s*// (-?\\d+)\\b.*");
    private static final Pattern PLAN = Pattern.compile("32 \\* (\\d+) \\+ (\\d+)");

    private static int wrong = 0;

    private static void wrong(String what) {
        wrong++;
        System.out.println(what);
    }

    private static int argument(String text) {
        Matcher plan = PLAN.matcher(text);
        if (plan.matches()) {
            return 32 * Integer.parseInt(plan.group(1)) + Integer.parseInt(plan.group(2));
        }
        return Integer.parseInt(text);
    }

    private static Object[] arguments(String text) {
        if (text.isEmpty()) {
            return new Object[0];
        }
        String[] parts = text.split(", ");
        Object[] found = new Object[parts.length];
        for (int i = 0; i < parts.length; i++) {
            found[i] = argument(parts[i]);
        }
        return found;
    }

    private static Method method(String name) {
        for (Method method : LayeredTree.class.getDeclaredMethods()) {
            if (method.getName().equals(name)) {
                return method;
            }
        }
        throw new IllegalArgumentException("README.md calls " + name + ", which there is not");
    }

    private static int runExample(String page) throws ReflectiveOperationException {
        LayeredTree table = new LayeredTree();
        int calls = 0;
        for (String line : page.split("\n")) {
            if (!line.startsWith("table.")) {
                continue;
            }
            Matcher call = LINE.matcher(line);
            if (!call.matches()) {
                wrong("README.md has a call without an answer: " + line);
                continue;
            }
            Object got = method(call.group(1)).invoke(table, arguments(call.group(2)));
            if ((int) got != Integer.parseInt(call.group(3))) {
                wrong("README.md: " + line + " but the answer is " + got);
            }
            calls++;
        }
        return calls;
    }

    private static void everyMethodIsTold(String page) {
        Set<String> missing = new TreeSet<>();
        for (Method method : LayeredTree.class.getDeclaredMethods()) {
            boolean open = Modifier.isPublic(method.getModifiers());
            if (open && !page.contains("`" + method.getName() + "(")) {
                missing.add(method.getName());
            }
        }
        if (!missing.isEmpty()) {
            wrong("README.md does not tell of " + missing);
        }
    }

    public static void main(String[] args) throws IOException, ReflectiveOperationException {
        String page = Files.readString(Path.of("README.md"));
        // An example that is not found would pass without one call.
        if (runExample(page) < 10) {
            wrong("README.md has no example of ten calls or more");
        }
        everyMethodIsTold(page);
        System.out.println(wrong == 0 ? "the example is as due" : wrong + " points are not as due");
        if (wrong != 0) {
            System.exit(1);
        }
    }
}

import java.io.IOException;
import java.lang.reflect.InvocationTargetException;
import java.lang.reflect.Method;
import java.nio.file.Files;
import java.nio.file.Path;
import java.util.regex.Matcher;
import java.util.regex.Pattern;

/** The example in README.md, call by call on one object: it answers what is written behind it. */
public final class ReadmeTest {
    private static final Path README = Path.of("README.md");
    private static final String NEW_OBJECT = "Calendaract x = new Calendaract();";
    private static final Pattern ROW =
            Pattern.compile("x\\.(\\w+)\\(([^)]*)\\); +// (\"[^\"]*\"|throws \\w+|[-\\w]+)(?:: .+)?");

    private static int rows = 0;
    private static int wrong = 0;

    public static void main(String[] args) throws IOException, IllegalAccessException {
        Calendaract x = new Calendaract();
        boolean isExample = false;
        for (String line : Files.readAllLines(README)) {
            if (line.startsWith("```")) {
                isExample = line.equals("```java");
            } else if (isExample && !line.equals(NEW_OBJECT)) {
                compare(x, line);
            }
        }
        if (rows == 0) {
            tell("there is no example");
        }
        if (wrong != 0) {
            System.exit(1);
        }
        System.out.println("all " + rows + " answers of README.md are so");
    }

    private static void compare(Calendaract x, String line) throws IllegalAccessException {
        Matcher row = ROW.matcher(line);
        if (!row.matches()) {
            tell("no call with its answer: " + line);
            return;
        }
        rows++;
        String got = answer(x, row.group(1), row.group(2).isEmpty()
                ? new String[0] : row.group(2).split(", "));
        if (!got.equals(row.group(3))) {
            tell(line + " .. but it is " + got);
        }
    }

    private static String answer(Calendaract x, String name, String[] words)
            throws IllegalAccessException {
        Method method = methodOf(name);
        if (method == null || method.getParameterCount() != words.length) {
            return "no such call";
        }
        Object[] arguments = new Object[words.length];
        for (int i = 0; i < words.length; i++) {
            arguments[i] = method.getParameterTypes()[i] == boolean.class
                    ? (Object) Boolean.valueOf(words[i]) : (Object) Integer.valueOf(words[i]);
        }
        try {
            Object got = method.invoke(x, arguments);
            return got instanceof String ? "\"" + got + "\"" : got.toString();
        } catch (InvocationTargetException e) {
            return "throws " + e.getCause().getClass().getSimpleName();
        }
    }

    /** No two methods of the face bear the same name. */
    private static Method methodOf(String name) {
        for (Method method : Calendaract.class.getMethods()) {
            if (method.getName().equals(name) && method.getDeclaringClass() == Calendaract.class) {
                return method;
            }
        }
        return null;
    }

    private static void tell(String text) {
        wrong++;
        System.out.println(text);
    }
}

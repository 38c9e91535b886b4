import java.io.IOException;
import java.lang.reflect.Constructor;
import java.lang.reflect.Field;
import java.lang.reflect.Method;
import java.lang.reflect.Modifier;
import java.nio.file.Files;
import java.nio.file.Path;
import java.util.Set;
import java.util.StringJoiner;
import java.util.TreeSet;

/** The class shows the face that the document writes, and nothing else (LANGUAGE.md, rule 1). */
public final class FaceTest {
    private static final Path DOCUMENT = Path.of("..", "shared", "DOC.md");

    public static void main(String[] args) throws IOException {
        Set<String> due = faceOfDocument();
        Set<String> got = faceOfClass();
        if (due.isEmpty() || !due.equals(got)) {
            Set<String> missing = new TreeSet<>(due);
            missing.removeAll(got);
            got.removeAll(due);
            System.out.println("missing: " + missing + ", too many: " + got);
            System.exit(1);
        }
        System.out.println("the face is the document's");
    }

    private static Set<String> faceOfDocument() throws IOException {
        Set<String> face = new TreeSet<>();
        boolean isFace = false;
        for (String line : Files.readAllLines(DOCUMENT)) {
            if (line.startsWith("```")) {
                isFace = line.equals("```java") && face.isEmpty();
            } else if (isFace && line.contains("(")) {
                face.add(withoutParameterNames(line.trim()));
            }
        }
        return face;
    }

    private static String withoutParameterNames(String line) {
        int open = line.indexOf('(');
        int close = line.indexOf(')');
        StringJoiner types = new StringJoiner(", ", "(", ")");
        for (String parameter : line.substring(open + 1, close).split(", ")) {
            if (!parameter.isEmpty()) {
                types.add(parameter.split(" ")[0]);
            }
        }
        return line.substring(0, open) + types + line.substring(close + 1).replace(";", "");
    }

    private static Set<String> faceOfClass() {
        Set<String> face = new TreeSet<>();
        Class<?> type = Calendaract.class;
        for (Constructor<?> constructor : type.getDeclaredConstructors()) {
            face.add(Modifier.toString(constructor.getModifiers()) + " " + type.getSimpleName()
                    + types(constructor.getParameterTypes(), ", ", "(", ")"));
        }
        for (Method method : type.getDeclaredMethods()) {
            if (!Modifier.isPrivate(method.getModifiers())) {
                face.add(Modifier.toString(method.getModifiers()) + " "
                        + method.getReturnType().getSimpleName() + " " + method.getName()
                        + types(method.getParameterTypes(), ", ", "(", ")")
                        + thrown(method.getExceptionTypes()));
            }
        }
        for (Field field : type.getDeclaredFields()) {
            if (!Modifier.isPrivate(field.getModifiers())) {
                face.add(field.toString());
            }
        }
        if (type.getModifiers() != (Modifier.PUBLIC | Modifier.FINAL)) {
            face.add("the class is " + Modifier.toString(type.getModifiers()));
        }
        return face;
    }

    private static String thrown(Class<?>[] exceptions) {
        return exceptions.length == 0 ? "" : types(exceptions, ", ", " throws ", "");
    }

    private static String types(Class<?>[] types, String between, String ahead, String behind) {
        StringJoiner names = new StringJoiner(between, ahead, behind);
        for (Class<?> type : types) {
            names.add(type.getSimpleName());
        }
        return names.toString();
    }
}

import java.io.IOException;
import java.lang.reflect.InvocationTargetException;
import java.lang.reflect.Method;
import java.lang.reflect.Modifier;
import java.nio.file.DirectoryStream;
import java.nio.file.Files;
import java.nio.file.Path;
import java.util.HashSet;
import java.util.Set;
import java.util.regex.Matcher;
import java.util.regex.Pattern;

/** Makes the calls that README.md shows, and compares their answers with those that it shows. */
public final class ReadmeTest extends DeskTest {
    private static final String NEW_DESK = "ConjurerDesk desk = new ConjurerDesk();";
    private static final Pattern CALL = Pattern.compile("desk\\.(\\w+)\\(([^)]*)\\); +// (-?\\w+)(: .*)?");
    private static final Pattern QUOTED = Pattern.compile("\"([^\"]*)\"");

    private static final Set<String> CALLED = new HashSet<>();

    public static void main(String[] args) throws IOException, IllegalAccessException {
        ConjurerDesk desk = new ConjurerDesk();
        boolean inJava = false;
        for (String line : Files.readAllLines(Path.of("README.md"))) {
            if (line.startsWith("```")) {
                inJava = line.equals("```java");
            } else if (inJava && line.equals(NEW_DESK)) {
                desk = new ConjurerDesk();
            } else if (inJava) {
                lookAt(desk, line);
            }
        }
        for (Method method : ConjurerDesk.class.getDeclaredMethods()) {
            if (Modifier.isPublic(method.getModifiers())) {
                due("README.md shows a call of " + method.getName(), CALLED.contains(method.getName()), true);
            }
        }
        everyTestIsNamed();
        finish();
    }

    private static void everyTestIsNamed() throws IOException {
        String readme = Files.readString(Path.of("README.md"));
        try (DirectoryStream<Path> tests = Files.newDirectoryStream(Path.of("src/test/java"), "*.java")) {
            for (Path test : tests) {
                String name = test.getFileName().toString().replace(".java", "");
                due("README.md names " + name, readme.contains("- `" + name + "`: "), true);
            }
        }
    }

    private static void lookAt(ConjurerDesk desk, String line) throws IllegalAccessException {
        Matcher call = CALL.matcher(line);
        if (!call.matches()) {
            wrong("README.md shows no call with its answer: " + line);
            return;
        }
        CALLED.add(call.group(1));
        Object[] numbers = numbers(call.group(2));
        due(line, answer(desk, call.group(1), numbers), call.group(3));
        Matcher quoted = QUOTED.matcher(line);
        if (quoted.find()) {
            due(line, bytes(numbers).substring(0, quoted.group(1).length()), quoted.group(1));
        }
    }

    private static Object[] numbers(String shown) {
        if (shown.isEmpty()) {
            return new Object[0];
        }
        String[] parts = shown.split(", ");
        Object[] numbers = new Object[parts.length];
        for (int i = 0; i < parts.length; i++) {
            numbers[i] = (int) (long) Long.decode(parts[i]);
        }
        return numbers;
    }

    private static String bytes(Object[] numbers) {
        StringBuilder bytes = new StringBuilder();
        for (Object number : numbers) {
            for (int shift = 24; shift >= 0; shift -= 8) {
                bytes.append((char) ((Integer) number >>> shift & 255));
            }
        }
        return bytes.toString();
    }

    private static String answer(ConjurerDesk desk, String name, Object[] numbers) throws IllegalAccessException {
        for (Method method : ConjurerDesk.class.getMethods()) {
            if (method.getName().equals(name) && method.getParameterCount() == numbers.length) {
                try {
                    return String.valueOf(method.invoke(desk, numbers));
                } catch (InvocationTargetException e) {
                    return e.getCause().getClass().getSimpleName();
                }
            }
        }
        return "no such call";
    }
}

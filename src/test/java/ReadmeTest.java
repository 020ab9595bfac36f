import java.io.File;
import java.io.IOException;
import java.lang.reflect.InvocationTargetException;
import java.lang.reflect.Method;
import java.lang.reflect.Modifier;
import java.nio.file.Files;
import java.nio.file.Path;
import java.util.List;
import java.util.regex.Matcher;
import java.util.regex.Pattern;

/** README.md's example answers what stands behind its calls, and README.md tells of each method and each test. */
public final class ReadmeTest {
    private static final Pattern MADE = Pattern.compile("ColourLessen picture = new ColourLessen\\((\\d+), (\\d+)\\);");
    private static final Pattern CALLED = Pattern.compile("picture\\.(\\w+)\\(([^)]*)\\);(?:\\s*// (-?\\w+).*)?");
    private static final Check CHECK = new Check();

    private static Method methodOf(String name) {
        for (Method m : ColourLessen.class.getDeclaredMethods()) {
            if (Modifier.isPublic(m.getModifiers()) && m.getName().equals(name)) {
                return m;
            }
        }
        throw new IllegalStateException("README.md calls " + name + ", which there is not");
    }

    private static Object[] numbersOf(String text) {
        if (text.isEmpty()) {
            return new Object[0];
        }
        String[] parts = text.split(", ");
        Object[] numbers = new Object[parts.length];
        for (int i = 0; i < parts.length; i++) {
            numbers[i] = Long.decode(parts[i]).intValue();
        }
        return numbers;
    }

    private static String answerOf(ColourLessen picture, String name, String numbers) throws IllegalAccessException {
        try {
            return String.valueOf(methodOf(name).invoke(picture, numbersOf(numbers)));
        } catch (InvocationTargetException e) {
            return e.getCause().getClass().getSimpleName();
        }
    }

    private static void example(List<String> lines) throws IllegalAccessException {
        CHECK.begin("README.md: the example");
        ColourLessen picture = null;
        int calls = 0;
        for (String line : lines) {
            Matcher made = MADE.matcher(line);
            Matcher called = CALLED.matcher(line);
            if (made.matches()) {
                picture = new ColourLessen(Integer.parseInt(made.group(1)), Integer.parseInt(made.group(2)));
            } else if (called.matches()) {
                calls++;
                String answer = answerOf(picture, called.group(1), called.group(2));
                CHECK.due(line, answer, called.group(3) == null ? "null" : called.group(3));
            } else if (line.startsWith("picture")) {
                CHECK.due(line, "not to be read", "a call and its answer");
            }
        }
        CHECK.due("the example is found", calls > 0, true);
    }

    private static void tellsOfAll(List<String> lines) {
        CHECK.begin("README.md: tells of each method and each test");
        String text = String.join("\n", lines);
        for (Method m : ColourLessen.class.getDeclaredMethods()) {
            if (Modifier.isPublic(m.getModifiers())) {
                CHECK.due("| `" + m.getName() + "(", text.contains("| `" + m.getName() + "("), true);
            }
        }
        String[] files = new File("src/test/java").list();
        CHECK.due("tests are found", files != null && files.length > 0, true);
        for (String file : files == null ? new String[0] : files) {
            String name = "`" + file.replace(".java", "") + "`";
            CHECK.due(name, text.contains(name), true);
        }
    }

    public static void main(String[] args) throws IOException, IllegalAccessException {
        List<String> lines = Files.readAllLines(Path.of("README.md"));
        example(lines);
        tellsOfAll(lines);
        CHECK.end();
    }
}

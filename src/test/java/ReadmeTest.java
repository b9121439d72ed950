import java.io.IOException;
import java.lang.reflect.InvocationTargetException;
import java.lang.reflect.Method;
import java.lang.reflect.Modifier;
import java.nio.file.Files;
import java.nio.file.Path;
import java.util.List;
import java.util.regex.Matcher;
import java.util.regex.Pattern;
import java.util.stream.Stream;

/** README.md: its example answers what stands behind each call, and it names all there is. */
public final class ReadmeTest {
    private static final Pattern CALL =
            Pattern.compile("garden\\.(\\w+)\\(([-0-9, ]*)\\); *// (\\S+)");

    public static void main(String[] args) throws IOException {
        Check c = new Check();
        List<String> lines = Files.readAllLines(Path.of("README.md"));
        example(c, lines);
        String page = String.join("\n", lines);
        for (Method m : Chipfold.class.getDeclaredMethods()) {
            if (Modifier.isPublic(m.getModifiers())) {
                c.due("README.md names " + m.getName(), true,
                        () -> page.contains("`" + m.getName() + "`"));
            }
        }
        try (Stream<Path> files = Files.list(Path.of("src/test/java"))) {
            files.map(file -> file.getFileName().toString())
                    .filter(name -> name.endsWith("Test.java"))
                    .map(name -> name.substring(0, name.length() - ".java".length()))
                    .forEach(name -> c.due("README.md names " + name, true,
                            () -> page.contains("| " + name + " |")));
        }
        c.end();
    }

    /** Each line of the example that begins with the garden is a call with its answer. */
    private static void example(Check c, List<String> lines) {
        Chipfold garden = new Chipfold();
        int calls = 0;
        for (String line : lines) {
            if (line.startsWith("garden.")) {
                Matcher call = CALL.matcher(line);
                boolean isCall = call.matches();
                c.due("a call and its answer: " + line, true, () -> isCall);
                if (isCall) {
                    c.due(line, call.group(3), () -> answer(garden, call.group(1), call.group(2)));
                    calls++;
                }
            }
        }
        int found = calls;
        c.due("calls are found in the example", true, () -> found > 20);
    }

    private static Object answer(Chipfold garden, String name, String numbers) {
        String[] parts = numbers.isBlank() ? new String[0] : numbers.split(", *");
        Class<?>[] types = new Class<?>[parts.length];
        Object[] values = new Object[parts.length];
        for (int i = 0; i < parts.length; i++) {
            types[i] = int.class;
            values[i] = Integer.valueOf(parts[i]);
        }
        try {
            return Chipfold.class.getMethod(name, types).invoke(garden, values);
        } catch (InvocationTargetException e) {
            return "throws." + e.getCause().getClass().getSimpleName();
        } catch (ReflectiveOperationException e) {
            return "no such call";
        }
    }
}

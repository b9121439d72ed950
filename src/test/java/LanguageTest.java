import java.io.IOException;
import java.lang.reflect.Field;
import java.lang.reflect.Method;
import java.lang.reflect.Modifier;
import java.nio.file.Files;
import java.nio.file.Path;
import java.util.regex.Matcher;
import java.util.regex.Pattern;

/** The rules of ../shared/LANGUAGE.md that a look at the source and at the class can tell. */
public final class LanguageTest {
    private static final String[] FORBIDDEN = {
        "->", "::", "\\btry\\b", "\\bcatch\\b", "\\bfinally\\b", "\\bassert\\b",
        "\\bsynchronized\\b", "\\bpackage\\b", "Exact\\s*\\(", "\\bSystem\\b", "\\bThread\\b",
        "\\bequals\\b", "\\bhashCode\\b", "\\btoString\\b", "\\bvar\\b", "\\bRandom\\b", "\\bString\\b",
        "import (?!java\\.util\\.NoSuchElementException;)", "throw (?!new \\w+\\(\"\"\\);)",
        "\\bObject\\b", "while \\(true\\)", "for \\(;;\\)"
    };
    private static final int MOST_LINES = 60;

    public static void main(String[] args) throws IOException {
        Check c = new Check();
        String source = Files.readString(Path.of("src/main/java/Chipfold.java"));
        String code = source.replaceAll("(?s)/\\*.*?\\*/", "").replaceAll("//[^\n]*", "")
                .replaceAll("\"[^\"\n]*\"", "\"\"");
        for (String pattern : FORBIDDEN) {
            Matcher found = Pattern.compile(pattern).matcher(code);
            c.due("places of " + pattern, false, found::find);
        }
        c.due("signs above 127", false, () -> source.chars().anyMatch(sign -> sign > 127));
        methodsAreShort(c, source);
        c.due("classes are twelve at the most", true,
                () -> Chipfold.class.getDeclaredClasses().length < 12);
        fields(c, Chipfold.class);
        parameters(c, Chipfold.class);
        for (Class<?> inner : Chipfold.class.getDeclaredClasses()) {
            fields(c, inner);
            parameters(c, inner);
        }
        c.end();
    }

    private static void methodsAreShort(Check c, String source) {
        int length = 0;
        for (String line : source.split("\n")) {
            boolean begins = line.matches(" {4}(?: {4})?\\S.*\\) .*\\{");
            length = begins ? 0 : length + 1;
            int now = length;
            c.due("the line is in a short method: " + line, true,
                    () -> now <= MOST_LINES || !line.startsWith("            "));
        }
    }

    private static void parameters(Check c, Class<?> type) {
        for (Method m : type.getDeclaredMethods()) {
            c.due("seven parameters at the most: " + m, true, () -> m.getParameterCount() <= 7);
        }
    }

    private static void fields(Check c, Class<?> type) {
        int ownFields = 0;
        for (Field f : type.getDeclaredFields()) {
            boolean isStatic = Modifier.isStatic(f.getModifiers());
            ownFields += isStatic ? 0 : 1;
            c.due(f + " is not static or final", true,
                    () -> !isStatic || Modifier.isFinal(f.getModifiers()));
        }
        int all = ownFields;
        c.due("fields of " + type, true, () -> all <= 20);
    }
}

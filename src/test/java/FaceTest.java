import java.lang.reflect.Constructor;
import java.lang.reflect.Field;
import java.lang.reflect.Member;
import java.lang.reflect.Method;
import java.lang.reflect.Modifier;
import java.util.Set;
import java.util.TreeSet;

/** The public face is that of the document, and there is no other member to be seen. */
public final class FaceTest {
    private static final String[] FACE = {
        "int vertex() ISE",
        "int edges(int,int,int) IOOBE IAE",
        "int setSink(int) IOOBE",
        "int degree(int) IOOBE",
        "boolean isWhole()",
        "int put(int,int) IOOBE IAE ISE",
        "int chips(int) IOOBE",
        "int topple(int) IOOBE UOE",
        "int settle() UOE",
        "int waves() UOE",
        "int count(int) IOOBE",
        "int swallowed()",
        "boolean isAgain() UOE",
        "int burns(int) IOOBE",
        "int unit(int) IOOBE UOE",
        "int square() UOE ISE",
        "long trees()",
        "int factors() UOE",
        "long factorAt(int) UOE IOOBE",
        "long order() UOE",
        "int walk(int) IOOBE UOE",
        "int rotor(int) IOOBE UOE",
        "int visits(int) IOOBE",
        "boolean areTree() UOE",
        "int setDebt(int,int) IOOBE IAE",
        "int deal(int,boolean) IOOBE ISE",
        "int debt(int) IOOBE",
        "int reduced(int) IOOBE UOE",
        "boolean canPay() UOE",
        "int rank() UOE ISE",
        "int picture(int,int) IAE",
        "int pixel(int) NSEE IOOBE",
        "float settledShare() AE",
        "double meanChips() AE",
        "boolean isSound()",
    };

    public static void main(String[] args) {
        Check c = new Check();
        Class<Chipfold> type = Chipfold.class;
        int modifiers = type.getModifiers();
        c.due("public and final", true,
                () -> Modifier.isPublic(modifiers) && Modifier.isFinal(modifiers));
        Constructor<?>[] constructors = type.getDeclaredConstructors();
        c.due("constructors", 1, () -> constructors.length);
        c.due("a public one without arguments", true, () -> constructors[0].getParameterCount() == 0
                && Modifier.isPublic(constructors[0].getModifiers()));
        Set<String> due = new TreeSet<>(Set.of(FACE));
        Set<String> found = new TreeSet<>();
        Set<String> names = new TreeSet<>();
        for (Method m : type.getDeclaredMethods()) {
            if (Modifier.isPublic(m.getModifiers())) {
                found.add(lineOf(m));
                names.add(m.getName());
            }
        }
        c.due("the face", due, () -> found);
        hidden(c, type, names);
        c.end();
    }

    private static void hidden(Check c, Class<?> type, Set<String> names) {
        for (Method m : type.getDeclaredMethods()) {
            if (!Modifier.isPublic(m.getModifiers())) {
                c.due(m.getName() + " is private", true, () -> isPrivate(m));
                c.due(m.getName() + " bears a public name", false, () -> names.contains(m.getName()));
            }
        }
        for (Field f : type.getDeclaredFields()) {
            c.due(f.getName() + " is private", true, () -> isPrivate(f));
        }
        for (Class<?> inner : type.getDeclaredClasses()) {
            c.due(inner.getName() + " is hidden", false,
                    () -> Modifier.isPublic(inner.getModifiers()));
            c.due(inner.getName() + " is static", true,
                    () -> Modifier.isStatic(inner.getModifiers()));
        }
    }

    private static boolean isPrivate(Member member) {
        return Modifier.isPrivate(member.getModifiers());
    }

    private static String lineOf(Method m) {
        StringBuilder line = new StringBuilder();
        line.append(m.getReturnType().getName()).append(' ').append(m.getName()).append('(');
        for (Class<?> p : m.getParameterTypes()) {
            line.append(line.charAt(line.length() - 1) == '(' ? "" : ",").append(p.getName());
        }
        line.append(')');
        for (Class<?> e : m.getExceptionTypes()) {
            line.append(' ').append(e.getSimpleName().replaceAll("[a-z]", ""));
        }
        return line.toString();
    }
}

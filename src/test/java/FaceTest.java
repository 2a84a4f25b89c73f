import java.lang.reflect.Constructor;
import java.lang.reflect.Field;
import java.lang.reflect.Method;
import java.lang.reflect.Modifier;
import java.util.ArrayList;
import java.util.List;
import java.util.Set;
import java.util.TreeSet;

/** The public face is the document's and nothing more, and no private method bears a public one's name. */
public final class FaceTest {
    private static final Check CHECK = new Check();
    private static final String RANGE = " IndexOutOfBoundsException";
    private static final String ARGUMENT = " IllegalArgumentException";
    private static final String STATE = " IllegalStateException";

    public static void main(String[] args) {
        Class<?> face = PieceTexts.class;
        CHECK.due("modifiers", "public final", Modifier.toString(face.getModifiers()));
        CHECK.due("constructors", "[public PieceTexts()]", constructors(face).toString());
        CHECK.due("methods", documented().toString(), methods(face).toString());
        for (Field f : face.getDeclaredFields()) {
            CHECK.due("field " + f.getName() + " is private", "true", "" + Modifier.isPrivate(f.getModifiers()));
        }
        for (Class<?> inside : face.getDeclaredClasses()) {
            CHECK.due(inside + " is static", "true", "" + Modifier.isStatic(inside.getModifiers()));
            namesAreTheirOwn(inside);
        }
        namesAreTheirOwn(face);
        CHECK.end();
    }

    private static Set<String> documented() {
        return new TreeSet<>(Set.of(
                "write(long)" + ARGUMENT + STATE,
                "put(int, int, int, int, int)" + RANGE + STATE,
                "cut(int, int, int, int)" + RANGE + ARGUMENT + STATE,
                "paste(int, int, int)" + RANGE + ARGUMENT + STATE,
                "copy(int, int, int, int)" + RANGE + ARGUMENT + STATE,
                "tag(int, int, int, int, int)" + RANGE + STATE,
                "wipe(int)" + RANGE,
                "length(int)",
                "look(int, int, int)" + RANGE + ARGUMENT,
                "piece(int, int, int)" + RANGE + ARGUMENT,
                "find(int, int, int)" + RANGE,
                "differ(int, int)" + RANGE,
                "count(int)"));
    }

    private static Set<String> constructors(Class<?> face) {
        Set<String> all = new TreeSet<>();
        for (Constructor<?> c : face.getDeclaredConstructors()) {
            all.add(c.toString());
        }
        return all;
    }

    private static Set<String> methods(Class<?> face) {
        Set<String> all = new TreeSet<>();
        for (Method m : face.getDeclaredMethods()) {
            if (Modifier.isPrivate(m.getModifiers())) {
                continue;
            }
            CHECK.due("modifiers of " + m.getName(), "public", Modifier.toString(m.getModifiers()));
            CHECK.due("type of " + m.getName(), "int", m.getReturnType().getName());
            StringBuilder s = new StringBuilder(m.getName()).append('(').append(parameters(m)).append(')');
            for (Class<?> e : m.getExceptionTypes()) {
                s.append(' ').append(e.getSimpleName());
            }
            all.add(s.toString());
        }
        return all;
    }

    private static String parameters(Method m) {
        List<String> types = new ArrayList<>();
        for (Class<?> type : m.getParameterTypes()) {
            types.add(type.getName());
        }
        return String.join(", ", types);
    }

    private static void namesAreTheirOwn(Class<?> inside) {
        for (Method m : inside.getDeclaredMethods()) {
            if (Modifier.isPublic(m.getModifiers())) {
                continue;
            }
            for (Method open : PieceTexts.class.getMethods()) {
                CHECK.due("private " + m.getName(), "false", "" + open.getName().equals(m.getName()));
            }
        }
    }
}

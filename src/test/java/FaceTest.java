import java.lang.reflect.Constructor;
import java.lang.reflect.Field;
import java.lang.reflect.Method;
import java.lang.reflect.Modifier;
import java.util.Set;
import java.util.TreeSet;

/** The public face is the document's and nothing more, and no private method bears a public one's name. */
public final class FaceTest {
    private static final Check CHECK = new Check();
    private static final String RANGE = " IndexOutOfBoundsException";
    private static final String ARGUMENT = " IllegalArgumentException";
    private static final String STATE = " IllegalStateException";

    public static void main(String[] args) {
        Class<?> face = PieceTexts.class;
        CHECK.due("modifiers", "public final", Modifier.toString(face.getModifiers()));
        CHECK.due("constructors", "[public PieceTexts()]", constructors(face).toString());
        CHECK.due("methods", documented().toString(), methods(face).toString());
        for (Field f : face.getDeclaredFields()) {
            CHECK.due("field " + f.getName() + " is private", "true", "" + Modifier.isPrivate(f.getModifiers()));
        }
        for (Class<?> inside : face.getDeclaredClasses()) {
            CHECK.due(inside + " is static", "true", "" + Modifier.isStatic(inside.getModifiers()));
            namesAreTheirOwn(inside);
        }
        namesAreTheirOwn(face);
        CHECK.end();
    }

    private static Set<String> documented() {
        return new TreeSet<>(Set.of(
                "write/1" + ARGUMENT + STATE,
                "put/5" + RANGE + STATE,
                "cut/4" + RANGE + ARGUMENT + STATE,
                "paste/3" + RANGE + ARGUMENT + STATE,
                "copy/4" + RANGE + ARGUMENT + STATE,
                "tag/5" + RANGE + STATE,
                "wipe/1" + RANGE,
                "length/1",
                "look/3" + RANGE + ARGUMENT,
                "piece/3" + RANGE + ARGUMENT,
                "find/3" + RANGE,
                "differ/2" + RANGE,
                "count/1"));
    }

    private static Set<String> constructors(Class<?> face) {
        Set<String> all = new TreeSet<>();
        for (Constructor<?> c : face.getDeclaredConstructors()) {
            all.add(c.toString());
        }
        return all;
    }

    private static Set<String> methods(Class<?> face) {
        Set<String> all = new TreeSet<>();
        for (Method m : face.getDeclaredMethods()) {
            if (Modifier.isPrivate(m.getModifiers())) {
                continue;
            }
            CHECK.due(m.getName() + " is public", "true", "" + Modifier.isPublic(m.getModifiers()));
            CHECK.due("type of " + m.getName(), "int", m.getReturnType().getName());
            StringBuilder s = new StringBuilder(m.getName()).append('/').append(m.getParameterCount());
            for (Class<?> e : m.getExceptionTypes()) {
                s.append(' ').append(e.getSimpleName());
            }
            all.add(s.toString());
        }
        return all;
    }

    private static void namesAreTheirOwn(Class<?> inside) {
        for (Method m : inside.getDeclaredMethods()) {
            if (Modifier.isPublic(m.getModifiers())) {
                continue;
            }
            for (Method open : PieceTexts.class.getMethods()) {
                CHECK.due("private " + m.getName(), "false", "" + open.getName().equals(m.getName()));
            }
        }
    }
}

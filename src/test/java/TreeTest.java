import java.lang.reflect.Field;
import java.util.Collections;
import java.util.IdentityHashMap;
import java.util.Set;

/**
 * "The rows lie in balanced trees": what count(3) tells of them is measured on
 * the trees themselves, as no call shows them. How the state is held is free,
 * so a class that holds it otherwise is left to the tests that only call it.
 */
public final class TreeTest {
    private static final Check CHECK = new Check();

    public static void main(String[] args) throws ReflectiveOperationException {
        if (!hasTrees()) {
            System.out.println("PieceTexts has no trees with the fields that are measured here");
            return;
        }
        oneEnd();
        manyParts();
        melding();
        bound();
        nodesAreUsedAgain();
        CHECK.end();
    }

    private static boolean hasTrees() throws ReflectiveOperationException {
        try {
            PieceTexts x = Make.letters();
            field(value(x, "trees"), "spare");
            return value(x, "roots") instanceof Object[] roots && roots.length == 16 && isNode(roots[0]);
        } catch (NoSuchFieldException e) {
            return false;
        }
    }

    private static boolean isNode(Object p) throws ReflectiveOperationException {
        for (String name : new String[] {"height", "pieces", "characters", "size"}) {
            if (field(p, name).getType() != int.class) {
                return false;
            }
        }
        return field(p, "left").getType() == p.getClass() && field(p, "right").getType() == p.getClass();
    }

    private static void oneEnd() throws ReflectiveOperationException {
        PieceTexts behind = Make.written("ab");
        PieceTexts before = Make.written("ab");
        PieceTexts inside = Make.written("ab");
        for (int i = 0; i < 400; i++) {
            behind.put(0, i, 0, 1, 0);
            before.put(0, 0, 0, 1, 0);
            inside.put(0, i / 3, 0, 1, 0);
            balanced(behind);
            balanced(before);
            balanced(inside);
        }
    }

    private static void manyParts() throws ReflectiveOperationException {
        PieceTexts x = Make.single(1024);
        for (int i = 0; i < 110; i++) {
            int n = x.length(0);
            x.cut(0, i * 37 % (n / 2), i * 101 % (n / 2), 1);
            balanced(x);
            x.paste(0, i * 53 % (x.length(0) + 1), 1);
            balanced(x);
        }
        CHECK.due("length(0)", 1024, () -> x.length(0));
    }

    private static void melding() throws ReflectiveOperationException {
        PieceTexts x = Make.halfFull();
        for (int i = 0; i < 200; i++) {
            x.tag(0, i * 997 % 2000, i % 9 + 1, 3, i);
            balanced(x);
        }
        for (int i = 0; i < 60; i++) {
            x.tag(0, i * 613 % 1700, 300, i % 2 == 0 ? 1 : -1, i % 3);
            x.copy(0, i * 31, 100 + i, 1);
            balanced(x);
            x.wipe(1);
        }
    }

    /** Heights at and above 2 * log2(n + 1) + 2, told to trees of n pieces. */
    private static void bound() throws ReflectiveOperationException {
        int[][] mostOf = {{1, 4}, {2, 5}, {4, 6}, {8, 8}, {16, 10}, {512, 20}, {1024, 22}};
        for (int[] m : mostOf) {
            PieceTexts x = Make.single(m[0]);
            Object root = ((Object[]) value(x, "roots"))[0];
            for (int height = m[1] - 1; height < m[1] + 60; height++) {
                field(root, "height").setInt(root, height);
                String what = "count(3) of " + m[0] + " pieces, " + height + " high";
                CHECK.due(what, height <= m[1] ? 1 : 0, () -> x.count(3));
            }
        }
    }

    /** A change parts a row at two places at most: 1026 nodes are enough, if none that was made is lost. */
    private static void nodesAreUsedAgain() throws ReflectiveOperationException {
        PieceTexts x = Make.single(512);
        Set<Object> seen = nodes(x);
        for (int i = 0; i < 50; i++) {
            x.copy(0, 0, 500, 1);
            seen.addAll(nodes(x));
            x.put(1, 1, 1, 3, 0);
            x.tag(1, 2, 2, -1, i);
            x.tag(1, 0, 503, -1, 0);
            x.cut(1, i, 400, 2);
            seen.addAll(nodes(x));
            x.paste(1, i, 2);
            x.wipe(1);
            seen.addAll(nodes(x));
        }
        int left = nodes(x).size();
        CHECK.due("nodes that are left", seen.size(), () -> left);
        CHECK.due(left + " nodes: few enough", "true", Boolean.toString(left <= 1026));
    }

    /** Those of all trees, and those that are kept for later use. */
    private static Set<Object> nodes(PieceTexts x) throws ReflectiveOperationException {
        Set<Object> found = Collections.newSetFromMap(new IdentityHashMap<>());
        for (Object root : (Object[]) value(x, "roots")) {
            collect(root, found);
        }
        for (Object p = value(value(x, "trees"), "spare"); p != null; p = value(p, "right")) {
            found.add(p);
        }
        return found;
    }

    private static void collect(Object p, Set<Object> found) throws ReflectiveOperationException {
        if (p != null) {
            found.add(p);
            collect(value(p, "left"), found);
            collect(value(p, "right"), found);
        }
    }

    private static void balanced(PieceTexts x) throws ReflectiveOperationException {
        for (Object root : (Object[]) value(x, "roots")) {
            int deep = measure(root);
            int n = root == null ? 0 : number(root, "pieces");
            boolean low = deep <= 2 * Math.log(n + 1) / Math.log(2) + 2;
            CHECK.due("a tree of " + n + " pieces, " + deep + " high, is low", "true", Boolean.toString(low));
        }
    }

    /** How high a tree is; every node's sums are compared with what lies below it on the way. */
    private static int measure(Object p) throws ReflectiveOperationException {
        if (p == null) {
            return 0;
        }
        Object left = value(p, "left");
        Object right = value(p, "right");
        int one = measure(left);
        int two = measure(right);
        int high = 1 + Math.max(one, two);
        CHECK.due("the tilt of a node is small", "true", Boolean.toString(Math.abs(one - two) <= 1));
        CHECK.due("height", high, () -> number(p, "height"));
        CHECK.due("pieces", 1 + number(left, "pieces") + number(right, "pieces"), () -> number(p, "pieces"));
        CHECK.due("characters", number(p, "size") + number(left, "characters") + number(right, "characters"),
                () -> number(p, "characters"));
        return high;
    }

    private static int number(Object p, String name) {
        try {
            return p == null ? 0 : field(p, name).getInt(p);
        } catch (ReflectiveOperationException e) {
            throw new IllegalStateException(e);
        }
    }

    private static Object value(Object p, String name) throws ReflectiveOperationException {
        return field(p, name).get(p);
    }

    private static Field field(Object p, String name) throws ReflectiveOperationException {
        Field f = p.getClass().getDeclaredField(name);
        f.setAccessible(true);
        return f;
    }
}

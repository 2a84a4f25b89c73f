/**
 * "There is such a one if n is 0 or more, at 0 or more, and at + n not above
 * the text's length": for cut, copy and tag, which take a range.
 */
public final class RangeTest {
    private static final Check CHECK = new Check();
    private static final int MAX = Integer.MAX_VALUE;
    private static final int MIN = Integer.MIN_VALUE;
    private static final int[] ENDS = {MIN, MIN + 1, MIN + 8, -8, -2, -1, MAX - 8, MAX - 7, MAX - 1, MAX};

    public static void main(String[] args) {
        for (int length = 0; length <= 8; length++) {
            everyRange(length);
        }
        fullText();
        CHECK.end();
    }

    private static PieceTexts text(int length) {
        PieceTexts x = Make.written("abcdefgh");
        if (length > 0) {
            x.put(4, 0, 0, length, 0);
        }
        return x;
    }

    private static void everyRange(int length) {
        for (int i = -2 - ENDS.length; i <= length + 2; i++) {
            for (int j = -2 - ENDS.length; j <= length + 2; j++) {
                tried(length, edge(i), edge(j));
            }
        }
    }

    /** Small numbers stand for themselves, and those below -2 for the int's ends. */
    private static int edge(int i) {
        return i < -2 ? ENDS[-3 - i] : i;
    }

    private static void tried(int length, int at, int n) {
        String range = " of " + at + ", " + n + " of " + length;
        if (n < 0 || at < 0 || (long) at + n > length) {
            CHECK.refuses(() -> text(length), "cut" + range, Check.RANGE, x -> x.cut(4, at, n, 9));
            CHECK.refuses(() -> text(length), "copy" + range, Check.RANGE, x -> x.copy(4, at, n, 9));
            CHECK.refuses(() -> text(length), "tag" + range, Check.RANGE, x -> x.tag(4, at, n, -1, 1));
        } else {
            cutOf(range, length, at, n);
            copyOf(range, length, at, n);
            tagOf(range, length, at, n);
        }
    }

    private static void cutOf(String range, int length, int at, int n) {
        PieceTexts x = text(length);
        CHECK.due("cut" + range, length - n, () -> x.cut(4, at, n, 9));
        CHECK.row(x, 9, one(0, at, n, 0));
        CHECK.row(x, 4, joined(one(0, 0, n == 0 ? length : at, 0), n == 0 ? "" : one(at, at + n, length - at - n, 0)));
    }

    private static void copyOf(String range, int length, int at, int n) {
        PieceTexts x = text(length);
        CHECK.due("copy" + range, Math.min(n, 1), () -> x.copy(4, at, n, 9));
        CHECK.row(x, 9, one(0, at, n, 0));
        CHECK.row(x, 4, one(0, 0, length, 0));
    }

    private static void tagOf(String range, int length, int at, int n) {
        PieceTexts x = text(length);
        String due = n == 0 ? one(0, 0, length, 0)
                : joined(one(0, 0, at, 0), joined(one(at, at, n, 1), one(at + n, at + n, length - at - n, 0)));
        int pieces = due.isEmpty() ? 0 : due.split(" ").length;
        CHECK.due("tag" + range, pieces, () -> x.tag(4, at, n, -1, 1));
        CHECK.row(x, 4, due);
    }

    /** A piece as State.row tells it; nothing if it would have no characters. */
    private static String one(int place, int source, int size, int tag) {
        return size < 1 ? "" : place + ":" + source + "+" + size + "#" + tag;
    }

    private static String joined(String left, String right) {
        return left.isEmpty() || right.isEmpty() ? left + right : left + " " + right;
    }

    /** The text that has all 4096. */
    private static void fullText() {
        int[][] none = {{0, 4097}, {1, 4096}, {4095, 2}, {4096, 1}, {4097, 0}, {4097, -1}, {-1, 4096}, {-1, 1},
            {-4096, 4096}, {4096, -1}, {4096, -4096}, {MAX, 1}, {1, MAX}, {MAX, MAX}, {MIN, MIN}, {MIN, MAX},
            {MAX, MIN}, {MIN, 0}, {0, MIN}, {MAX, 0}, {0, MAX}, {4096, MAX}, {MAX, 4096}};
        for (int[] w : none) {
            String range = " of " + w[0] + ", " + w[1] + " of 4096";
            CHECK.refusesWhole(Make::oneFull, "cut" + range, Check.RANGE, x -> x.cut(0, w[0], w[1], 9));
            CHECK.refusesWhole(Make::oneFull, "copy" + range, Check.RANGE, x -> x.copy(0, w[0], w[1], 9));
            CHECK.refusesWhole(Make::oneFull, "tag" + range, Check.RANGE, x -> x.tag(0, w[0], w[1], -1, 1));
        }
        int[][] good = {{0, 4096}, {0, 0}, {4096, 0}, {4095, 1}, {0, 1}, {1, 4095}, {0, 4095}};
        for (int[] g : good) {
            String range = " of " + g[0] + ", " + g[1] + " of 4096";
            PieceTexts x = Make.oneFull();
            CHECK.due("cut" + range, 4096 - g[1], () -> x.cut(0, g[0], g[1], 9));
            CHECK.due("length(9) after cut" + range, g[1], () -> x.length(9));
            PieceTexts y = Make.oneFull();
            CHECK.due("copy" + range, g[1] == 0 ? "0" : Check.STATE, Check.answer(() -> y.copy(0, g[0], g[1], 9)));
            PieceTexts z = Make.oneFull();
            int parts = g[1] == 0 || g[1] == 4096 ? 0 : 1;
            CHECK.due("tag" + range, 64 + parts, () -> z.tag(0, g[0], g[1], -1, 1));
        }
    }
}

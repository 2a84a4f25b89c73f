/** Promise 14: count. */
public final class CountTest {
    private static final Check CHECK = new Check();

    public static void main(String[] args) {
        counts();
        another();
        treesStayLow();
        CHECK.end();
    }

    private static void counts() {
        PieceTexts x = Make.letters();
        x.put(4, 0, 0, 2, 0);
        x.put(4, 2, 0, 2, 0);
        CHECK.due("count(0)", 8, () -> x.count(0));
        CHECK.due("count(1)", 12, () -> x.count(1));
        CHECK.due("count(2)", 3, () -> x.count(2));
        x.write(Make.bytes("xyz"));
        CHECK.due("count(0) after a write", 11, () -> x.count(0));
        CHECK.due("count(1) after a write", 12, () -> x.count(1));
        x.put(15, 0, 8, 3, 0);
        CHECK.due("count(1) with text 15", 15, () -> x.count(1));
        CHECK.due("count(2) with text 15", 4, () -> x.count(2));
        PieceTexts y = Make.full();
        CHECK.due("count(1), full", 4096, () -> y.count(1));
        CHECK.due("count(2), full", 64, () -> y.count(2));
    }

    private static void another() {
        PieceTexts x = Make.letters();
        for (int what : new int[] {-1, 4, 5, Integer.MIN_VALUE, Integer.MAX_VALUE}) {
            CHECK.due("count(" + what + ")", -1, () -> x.count(what));
        }
    }

    /** What makes a tree that nobody balances a chain: always the same end, and small parts at big ones. */
    private static void treesStayLow() {
        PieceTexts behind = Make.written("ab");
        PieceTexts before = Make.written("ab");
        PieceTexts inside = Make.written("ab");
        for (int i = 0; i < 400; i++) {
            behind.put(0, i, 0, 1, 0);
            before.put(0, 0, 0, 1, 0);
            inside.put(0, i / 2, 0, 1, 0);
            if (i % 10 == 0 || i < 10) {
                CHECK.due("count(3), behind " + i, 1, () -> behind.count(3));
                CHECK.due("count(3), before " + i, 1, () -> before.count(3));
                CHECK.due("count(3), inside " + i, 1, () -> inside.count(3));
            }
        }
        PieceTexts x = Make.single(1024);
        for (int i = 0; i < 120; i++) {
            x.cut(0, 0, 5 + i % 3, 1);
            CHECK.due("count(3), cut " + i, 1, () -> x.count(3));
            x.paste(0, i % 2 == 0 ? x.length(0) : 1, 1);
        }
        CHECK.due("count(3)", 1, () -> x.count(3));
    }
}

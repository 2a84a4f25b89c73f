/** Promise 6: copy. */
public final class CopyTest {
    private static final Check CHECK = new Check();
    private static final int MAX = Integer.MAX_VALUE;
    private static final int MIN = Integer.MIN_VALUE;

    public static void main(String[] args) {
        ranges();
        emptyRange();
        copyIsApart();
        noSuchTextOrRange();
        wrongInto();
        tooManyCharacters();
        tooManyPieces();
        CHECK.end();
    }

    private static PieceTexts threePieces() {
        PieceTexts x = Make.letters();
        x.tag(0, 3, 2, -1, 6);
        return x;
    }

    private static void ranges() {
        PieceTexts x = threePieces();
        CHECK.due("copy of all", 3, () -> x.copy(0, 0, 8, 1));
        CHECK.row(x, 1, "0:0+3#0 3:3+2#6 5:5+3#0");
        CHECK.due("copy of parts", 3, () -> x.copy(0, 2, 4, 2));
        CHECK.row(x, 2, "0:2+1#0 1:3+2#6 3:5+1#0");
        CHECK.due("copy inside a piece", 1, () -> x.copy(0, 6, 1, 3));
        CHECK.row(x, 3, "0:6+1#0");
        CHECK.due("copy of one whole piece", 1, () -> x.copy(0, 3, 2, 15));
        CHECK.row(x, 15, "0:3+2#6");
        CHECK.due("copy of the end", 2, () -> x.copy(0, 4, 4, 5));
        CHECK.row(x, 5, "0:4+1#6 1:5+3#0");
        CHECK.row(x, 0, "0:0+3#0 3:3+2#6 5:5+3#0");
        CHECK.due("count(1)", 27, () -> x.count(1));
        CHECK.due("count(2)", 13, () -> x.count(2));
        CHECK.due("count(0)", 8, () -> x.count(0));
    }

    private static void emptyRange() {
        PieceTexts x = threePieces();
        CHECK.due("copy of nothing", 0, () -> x.copy(0, 4, 0, 1));
        CHECK.due("copy of nothing at the end", 0, () -> x.copy(0, 8, 0, 1));
        CHECK.due("copy of nothing from nothing", 0, () -> x.copy(2, 0, 0, 1));
        CHECK.due("length(1)", 0, () -> x.length(1));
        CHECK.row(x, 0, "0:0+3#0 3:3+2#6 5:5+3#0");
    }

    private static void copyIsApart() {
        PieceTexts x = threePieces();
        x.copy(0, 0, 8, 1);
        x.tag(1, 0, 8, -1, 9);
        x.cut(0, 0, 1, 2);
        CHECK.row(x, 0, "0:1+2#0 2:3+2#6 4:5+3#0");
        CHECK.row(x, 1, "0:0+8#9");
        x.wipe(0);
        CHECK.row(x, 1, "0:0+8#9");
    }

    private static void noSuchTextOrRange() {
        for (int text : new int[] {-1, 16, MIN, MAX}) {
            CHECK.refuses(CopyTest::threePieces, "copy from text " + text, Check.RANGE, o -> o.copy(text, 0, 0, 1));
            CHECK.refuses(CopyTest::threePieces, "copy into text " + text, Check.RANGE, o -> o.copy(0, 0, 1, text));
        }
        int[][] wrong = {{-1, 1}, {-1, 0}, {0, -1}, {0, 9}, {8, 1}, {9, 0}, {1, MAX}, {MAX, 1}, {MAX, MAX}, {MIN, MAX},
            {0, MIN}, {MAX, MIN}};
        for (int[] w : wrong) {
            CHECK.refuses(CopyTest::threePieces, "copy of " + w[0] + ", " + w[1], Check.RANGE,
                    o -> o.copy(0, w[0], w[1], 1));
        }
    }

    private static void wrongInto() {
        CHECK.refuses(Make::twoTexts, "copy into itself", Check.ARGUMENT, o -> o.copy(0, 0, 2, 0));
        CHECK.refuses(Make::twoTexts, "copy of nothing into itself", Check.ARGUMENT, o -> o.copy(2, 0, 0, 2));
        CHECK.refuses(Make::twoTexts, "copy into characters", Check.ARGUMENT, o -> o.copy(0, 0, 2, 1));
        CHECK.refuses(Make::twoTexts, "copy of nothing into characters", Check.ARGUMENT, o -> o.copy(0, 0, 0, 1));
        CHECK.refuses(Make::twoTexts, "copy of no range into itself", Check.RANGE, o -> o.copy(0, 0, 9, 0));
    }

    private static void tooManyCharacters() {
        PieceTexts x = Make.halfFull();
        x.put(5, 0, 0, 1, 0);
        CHECK.refusesFull(x, "copy that makes 4097", Check.STATE, () -> x.copy(0, 0, 2048, 1));
        CHECK.due("copy that makes 4096", 32, () -> x.copy(0, 1, 2047, 1));
        CHECK.due("count(1)", 4096, () -> x.count(1));
        CHECK.refusesFull(x, "copy of one more", Check.STATE, () -> x.copy(0, 0, 1, 2));
        CHECK.refusesFull(x, "copy of one more into itself", Check.ARGUMENT, () -> x.copy(0, 0, 1, 0));
        CHECK.due("copy of nothing", 0, () -> x.copy(0, 0, 0, 2));
    }

    private static void tooManyPieces() {
        PieceTexts x = Make.single(512);
        x.put(0, 1, 1, 2, 0);
        CHECK.due("copy that makes 1024", 512, () -> x.copy(0, 0, 514, 1));
        CHECK.refusesFull(x, "copy of a piece more", Check.STATE, () -> x.copy(0, 1, 1, 2));
        CHECK.due("copy of nothing", 0, () -> x.copy(0, 1, 0, 2));
        x.wipe(1);
        x.put(1, 0, 3, 1, 8);
        CHECK.refusesFull(x, "copy that makes 1025", Check.STATE, () -> x.copy(0, 2, 512, 2));
        CHECK.due("copy that makes 1024", 511, () -> x.copy(0, 3, 511, 2));
        CHECK.due("count(2)", 1024, () -> x.count(2));
        CHECK.due("count(3)", 1, () -> x.count(3));
    }
}

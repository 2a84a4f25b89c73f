/** Promise 13: differ. */
public final class DifferTest {
    private static final Check CHECK = new Check();

    public static void main(String[] args) {
        bytesCountAlone();
        lengths();
        noSuchText();
        longTexts();
        CHECK.end();
    }

    /** Other sources, tags and pieces with the same bytes make no difference. */
    private static void bytesCountAlone() {
        PieceTexts x = Make.written("abcab", "caXb");
        x.put(0, 0, 0, 6, 0);
        x.put(1, 0, 3, 3, 7);
        x.put(1, 3, 0, 3, 8);
        CHECK.due("differ of the same bytes", -1, () -> x.differ(0, 1));
        x.put(0, 4, 7, 1, 0);
        CHECK.due("differ inside", 4, () -> x.differ(0, 1));
        CHECK.due("differ inside, other way", 4, () -> x.differ(1, 0));
        x.put(0, 0, 1, 1, 0);
        CHECK.due("differ at once", 0, () -> x.differ(0, 1));
    }

    private static void lengths() {
        PieceTexts x = Make.letters();
        x.copy(0, 0, 5, 1);
        CHECK.due("differ where one ends", 5, () -> x.differ(0, 1));
        CHECK.due("differ where one ends, other way", 5, () -> x.differ(1, 0));
        CHECK.due("differ from an empty text", 0, () -> x.differ(0, 2));
        CHECK.due("differ of an empty text", 0, () -> x.differ(2, 0));
        CHECK.due("differ of two empty texts", -1, () -> x.differ(2, 15));
        CHECK.due("differ from itself", -1, () -> x.differ(0, 0));
        CHECK.due("differ of an empty text from itself", -1, () -> x.differ(3, 3));
    }

    private static void noSuchText() {
        for (int text : new int[] {-1, 16, Integer.MIN_VALUE, Integer.MAX_VALUE}) {
            CHECK.refuses(Make::letters, "differ of text " + text, Check.RANGE, o -> o.differ(text, 0));
            CHECK.refuses(Make::letters, "differ from text " + text, Check.RANGE, o -> o.differ(0, text));
            CHECK.refuses(Make::letters, "differ of twice text " + text, Check.RANGE, o -> o.differ(text, text));
        }
    }

    private static void longTexts() {
        PieceTexts x = Make.full();
        CHECK.due("differ of 2048", -1, () -> x.differ(0, 1));
        x.cut(1, 2047, 1, 2);
        x.wipe(2);
        CHECK.due("differ at the last one", 2047, () -> x.differ(0, 1));
        x.put(1, 2047, 0, 1, 0);
        CHECK.due("differ in the last one", 2047, () -> x.differ(0, 1));
    }
}

/** Promise 9: length. */
public final class LengthTest {
    public static void main(String[] args) {
        Check check = new Check();
        PieceTexts x = Make.letters();
        x.put(15, 0, 2, 3, 0);
        check.due("length(0)", 8, () -> x.length(0));
        check.due("length(15)", 3, () -> x.length(15));
        check.due("length(7)", 0, () -> x.length(7));
        for (int text : new int[] {-1, 16, Integer.MIN_VALUE, Integer.MAX_VALUE}) {
            check.due("length(" + text + ")", -1, () -> x.length(text));
        }
        x.cut(0, 1, 5, 7);
        check.due("length(0) after a cut", 3, () -> x.length(0));
        check.due("length(7) after a cut", 5, () -> x.length(7));
        x.paste(15, 1, 7);
        check.due("length(15) after a paste", 8, () -> x.length(15));
        check.due("length(7) after a paste", 0, () -> x.length(7));
        PieceTexts y = Make.full();
        y.paste(1, 2048, 0);
        check.due("length(1) of all characters", 4096, () -> y.length(1));
        check.end();
    }
}

/** Promise 1: an empty buffer, all texts without characters. */
public final class NewObjectTest {
    public static void main(String[] args) {
        Check check = new Check();
        PieceTexts x = new PieceTexts();
        for (int what = 0; what < 3; what++) {
            int w = what;
            check.due("count(" + what + ")", 0, () -> x.count(w));
        }
        check.due("count(3)", 1, () -> x.count(3));
        for (int text = 0; text < 16; text++) {
            int t = text;
            check.due("length(" + t + ")", 0, () -> x.length(t));
            check.refuses(PieceTexts::new, "look(" + t + ", 0, 0)", Check.RANGE, o -> o.look(t, 0, 0));
            check.refuses(PieceTexts::new, "piece(" + t + ", 0, 0)", Check.RANGE, o -> o.piece(t, 0, 0));
        }
        twoAreApart(check);
        check.end();
    }

    private static void twoAreApart(Check check) {
        PieceTexts x = Make.letters();
        PieceTexts y = new PieceTexts();
        check.due("count(0) of another object", 0, () -> y.count(0));
        check.due("length(0) of another object", 0, () -> y.length(0));
        y.write(Make.bytes("z"));
        check.due("look(0, 0, 0)", 'a', () -> x.look(0, 0, 0));
    }
}

/** Promise 1: an empty buffer, all texts without characters. */
public final class NewObjectTest {
    public static void main(String[] args) {
        Check check = new Check();
        PieceTexts x = new PieceTexts();
        for (int what = 0; what < 3; what++) {
            int w = what;
            check.due("count(" + what + ")", 0, () -> x.count(w));
        }
        check.due("count(3)", 1, () -> x.count(3));
        for (int text = 0; text < 16; text++) {
            int t = text;
            check.due("length(" + t + ")", 0, () -> x.length(t));
            check.refuses(PieceTexts::new, "look(" + t + ", 0, 0)", Check.RANGE, o -> o.look(t, 0, 0));
            check.refuses(PieceTexts::new, "piece(" + t + ", 0, 0)", Check.RANGE, o -> o.piece(t, 0, 0));
        }
        callsOfNothing(check);
        twoAreApart(check);
        check.end();
    }

    private static void callsOfNothing(Check check) {
        PieceTexts x = new PieceTexts();
        check.due("cut of nothing", 0, () -> x.cut(0, 0, 0, 1));
        check.due("paste of nothing", 0, () -> x.paste(0, 0, 1));
        check.due("copy of nothing", 0, () -> x.copy(0, 0, 0, 1));
        check.due("tag of nothing", 0, () -> x.tag(0, 0, 0, -1, 1));
        check.due("wipe of nothing", 0, () -> x.wipe(0));
        check.due("find in nothing", -1, () -> x.find(0, 0, 1));
        check.due("differ of nothing", -1, () -> x.differ(0, 1));
        check.due("put of nothing's bytes", Check.RANGE, Check.answer(() -> x.put(0, 0, 0, 1, 0)));
        check.due("the first write", 0, () -> x.write(1L));
    }

    private static void twoAreApart(Check check) {
        PieceTexts x = Make.letters();
        PieceTexts y = new PieceTexts();
        check.due("count(0) of another object", 0, () -> y.count(0));
        check.due("length(0) of another object", 0, () -> y.length(0));
        y.write(Make.bytes("z"));
        check.due("look(0, 0, 0)", 'a', () -> x.look(0, 0, 0));
    }
}

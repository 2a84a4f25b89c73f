/** "There are texts 0 .. 15, at first without characters": each of them is one, and no other number is. */
public final class TextNumbersTest {
    private static final Check CHECK = new Check();
    private static final int[] NONE = {-1, 16, -2, 17, -16, 31, 32, 255, 256, Integer.MIN_VALUE, Integer.MIN_VALUE + 1,
        Integer.MAX_VALUE, Integer.MAX_VALUE - 1};

    public static void main(String[] args) {
        for (int t = 0; t < 16; t++) {
            firstWithoutCharacters(t);
            goodForChanges(t);
            goodForQuestions(t);
            ownCharacters(t);
        }
        for (int none : NONE) {
            noTextToChange(none);
            noTextToGoInto(none);
            noTextToAsk(none);
        }
        CHECK.end();
    }

    private static void firstWithoutCharacters(int t) {
        PieceTexts x = Make.written("abcdefgh");
        CHECK.due("length(" + t + ")", 0, () -> x.length(t));
        CHECK.due("wipe(" + t + ")", 0, () -> x.wipe(t));
        CHECK.due("find in text " + t, -1, () -> x.find(t, 0, 'a'));
        CHECK.due("look in text " + t, Check.RANGE, Check.answer(() -> x.look(t, 0, 0)));
        CHECK.due("piece of text " + t, Check.RANGE, Check.answer(() -> x.piece(t, 0, 0)));
    }

    private static void goodForChanges(int t) {
        int u = 15 - t;
        PieceTexts x = Make.written("abcdefgh");
        CHECK.due("put into text " + t, 8, () -> x.put(t, 0, 0, 8, 0));
        CHECK.due("cut from text " + t, 6, () -> x.cut(t, 3, 2, u));
        CHECK.due("paste of text " + u, 8, () -> x.paste(t, 3, u));
        CHECK.due("tag in text " + t, 2, () -> x.tag(t, 4, 4, 3, 1));
        CHECK.due("copy into text " + u, 2, () -> x.copy(t, 2, 4, u));
        CHECK.row(x, u, "0:2+2#0 2:4+2#1");
        CHECK.due("wipe(" + t + ")", 8, () -> x.wipe(t));
        CHECK.due("paste into text " + t, 4, () -> x.paste(t, 0, u));
        CHECK.row(x, t, "0:2+2#0 2:4+2#1");
        CHECK.row(x, u, "");
    }

    private static void goodForQuestions(int t) {
        PieceTexts x = Make.written("abcdefgh");
        x.put(t, 0, 2, 3, 9);
        CHECK.due("length(" + t + ")", 3, () -> x.length(t));
        CHECK.due("look in text " + t, 'd', () -> x.look(t, 1, 0));
        CHECK.due("piece of text " + t, 9, () -> x.piece(t, 0, 3));
        CHECK.due("find in text " + t, 2, () -> x.find(t, 0, 'e'));
        CHECK.due("differ of text " + t, 0, () -> x.differ(t, 15 - t));
        CHECK.due("differ from text " + t, 0, () -> x.differ(15 - t, t));
        CHECK.due("count(1)", 3, () -> x.count(1));
        CHECK.due("count(2)", 1, () -> x.count(2));
    }

    /** What is put into one text shows in no other. */
    private static void ownCharacters(int t) {
        PieceTexts x = Make.written("abcdefgh");
        x.put(t, 0, 0, 5, 0);
        for (int i = 0; i < 16; i++) {
            int u = i;
            CHECK.due("length(" + u + ") with characters in " + t, u == t ? 5 : 0, () -> x.length(u));
        }
    }

    private static void noTextToChange(int none) {
        String in = " text " + none;
        CHECK.refuses(Make::twoTexts, "put into" + in, Check.RANGE, x -> x.put(none, 0, 0, 1, 0));
        CHECK.refuses(Make::twoTexts, "cut from" + in, Check.RANGE, x -> x.cut(none, 0, 0, 2));
        CHECK.refuses(Make::twoTexts, "cut of one from" + in, Check.RANGE, x -> x.cut(none, 0, 1, 2));
        CHECK.refuses(Make::twoTexts, "paste into" + in, Check.RANGE, x -> x.paste(none, 0, 1));
        CHECK.refuses(Make::twoTexts, "paste of nothing into" + in, Check.RANGE, x -> x.paste(none, 0, 2));
        CHECK.refuses(Make::twoTexts, "copy from" + in, Check.RANGE, x -> x.copy(none, 0, 0, 2));
        CHECK.refuses(Make::twoTexts, "copy of one from" + in, Check.RANGE, x -> x.copy(none, 0, 1, 2));
        CHECK.refuses(Make::twoTexts, "tag in" + in, Check.RANGE, x -> x.tag(none, 0, 0, -1, 1));
        CHECK.refuses(Make::twoTexts, "tag of one in" + in, Check.RANGE, x -> x.tag(none, 0, 1, -1, 1));
        CHECK.refuses(Make::twoTexts, "wipe of" + in, Check.RANGE, x -> x.wipe(none));
    }

    private static void noTextToGoInto(int none) {
        String into = " text " + none;
        CHECK.refuses(Make::twoTexts, "cut into" + into, Check.RANGE, x -> x.cut(0, 2, 3, none));
        CHECK.refuses(Make::twoTexts, "cut of nothing into" + into, Check.RANGE, x -> x.cut(0, 2, 0, none));
        CHECK.refuses(Make::twoTexts, "cut from nothing into" + into, Check.RANGE, x -> x.cut(2, 0, 0, none));
        CHECK.refuses(Make::twoTexts, "copy into" + into, Check.RANGE, x -> x.copy(0, 2, 3, none));
        CHECK.refuses(Make::twoTexts, "copy of nothing into" + into, Check.RANGE, x -> x.copy(0, 2, 0, none));
        CHECK.refuses(Make::twoTexts, "copy from nothing into" + into, Check.RANGE, x -> x.copy(2, 0, 0, none));
        CHECK.refuses(Make::twoTexts, "paste of" + into, Check.RANGE, x -> x.paste(0, 2, none));
        CHECK.refuses(Make::twoTexts, "paste at the end of" + into, Check.RANGE, x -> x.paste(0, 8, none));
        CHECK.refuses(Make::twoTexts, "paste into nothing of" + into, Check.RANGE, x -> x.paste(2, 0, none));
    }

    private static void noTextToAsk(int none) {
        String of = " text " + none;
        PieceTexts y = Make.twoTexts();
        CHECK.due("length of" + of, -1, () -> y.length(none));
        CHECK.refuses(Make::twoTexts, "look in" + of, Check.RANGE, x -> x.look(none, 0, 1));
        CHECK.refuses(Make::twoTexts, "piece of" + of, Check.RANGE, x -> x.piece(none, 0, 1));
        CHECK.refuses(Make::twoTexts, "find in" + of, Check.RANGE, x -> x.find(none, 0, 'a'));
        CHECK.refuses(Make::twoTexts, "find of no byte in" + of, Check.RANGE, x -> x.find(none, 0, 0));
        CHECK.refuses(Make::twoTexts, "differ of" + of, Check.RANGE, x -> x.differ(none, 0));
        CHECK.refuses(Make::twoTexts, "differ from" + of, Check.RANGE, x -> x.differ(0, none));
        CHECK.refuses(Make::twoTexts, "differ from nothing of" + of, Check.RANGE, x -> x.differ(none, 2));
        CHECK.refuses(Make::twoTexts, "differ of nothing from" + of, Check.RANGE, x -> x.differ(2, none));
        CHECK.refuses(Make::twoTexts, "differ from itself of" + of, Check.RANGE, x -> x.differ(none, none));
    }
}

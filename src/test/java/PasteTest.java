/** Promise 5: paste. */
public final class PasteTest {
    private static final Check CHECK = new Check();

    public static void main(String[] args) {
        places();
        nothing();
        neighboursMeld();
        noSuchTextOrPlace();
        intoItself();
        tooManyPieces();
        atTheLimits();
        meldsWhenFull();
        CHECK.end();
    }

    private static void places() {
        PieceTexts x = Make.letters();
        x.put(1, 0, 6, 2, 4);
        CHECK.due("paste inside", 10, () -> x.paste(0, 3, 1));
        CHECK.row(x, 0, "0:0+3#0 3:6+2#4 5:3+5#0");
        CHECK.due("length(1)", 0, () -> x.length(1));
        x.put(1, 0, 0, 1, 1);
        x.put(1, 1, 0, 1, 1);
        CHECK.due("paste before all", 12, () -> x.paste(0, 0, 1));
        x.put(2, 0, 5, 1, 0);
        CHECK.due("paste at the end", 13, () -> x.paste(0, 12, 2));
        CHECK.row(x, 0, "0:0+1#1 1:0+1#1 2:0+3#0 5:6+2#4 7:3+5#0 12:5+1#0");
        CHECK.due("paste into nothing", 13, () -> x.paste(9, 0, 0));
        CHECK.row(x, 9, "0:0+1#1 1:0+1#1 2:0+3#0 5:6+2#4 7:3+5#0 12:5+1#0");
        CHECK.row(x, 0, "");
        CHECK.due("count(1)", 13, () -> x.count(1));
    }

    private static void nothing() {
        PieceTexts x = Make.letters();
        for (int at = 0; at <= 8; at++) {
            int place = at;
            CHECK.due("paste of nothing at " + at, 8, () -> x.paste(0, place, 1));
        }
        CHECK.row(x, 0, "0:0+8#0");
        CHECK.due("paste of nothing into nothing", 0, () -> x.paste(2, 0, 1));
    }

    private static void neighboursMeld() {
        PieceTexts x = Make.letters();
        x.cut(0, 2, 4, 1);
        CHECK.due("paste back", 8, () -> x.paste(0, 2, 1));
        CHECK.row(x, 0, "0:0+8#0");
        x.cut(0, 2, 6, 1);
        x.put(1, 6, 0, 1, 0);
        CHECK.due("paste that melds left", 9, () -> x.paste(0, 2, 1));
        CHECK.row(x, 0, "0:0+8#0 8:0+1#0");
        x.cut(0, 0, 3, 1);
        x.put(1, 0, 5, 1, 0);
        CHECK.due("paste that melds right", 10, () -> x.paste(0, 0, 1));
        CHECK.row(x, 0, "0:5+1#0 1:0+8#0 9:0+1#0");
        x.put(1, 0, 1, 1, 9);
        CHECK.due("paste of another tag", 11, () -> x.paste(0, 10, 1));
        CHECK.row(x, 0, "0:5+1#0 1:0+8#0 9:0+1#0 10:1+1#9");
    }

    private static void noSuchTextOrPlace() {
        for (int text : new int[] {-1, 16, Integer.MIN_VALUE, Integer.MAX_VALUE}) {
            CHECK.refuses(Make::twoTexts, "paste into text " + text, Check.RANGE, o -> o.paste(text, 0, 1));
            CHECK.refuses(Make::twoTexts, "paste of text " + text, Check.RANGE, o -> o.paste(0, 0, text));
            CHECK.refuses(Make::twoTexts, "paste of text " + text + " into it", Check.RANGE,
                    o -> o.paste(text, 0, text));
        }
        for (int at : new int[] {-1, 9, Integer.MIN_VALUE, Integer.MAX_VALUE}) {
            CHECK.refuses(Make::twoTexts, "paste at " + at, Check.RANGE, o -> o.paste(0, at, 1));
            CHECK.refuses(Make::twoTexts, "paste of nothing at " + at, Check.RANGE, o -> o.paste(0, at, 2));
            CHECK.refuses(Make::twoTexts, "paste into nothing at " + at, Check.RANGE, o -> o.paste(2, at, 0));
        }
    }

    private static void intoItself() {
        CHECK.refuses(Make::letters, "paste into itself", Check.ARGUMENT, o -> o.paste(0, 0, 0));
        CHECK.refuses(Make::letters, "paste of an empty text into itself", Check.ARGUMENT, o -> o.paste(4, 0, 4));
        CHECK.refuses(Make::letters, "paste into itself at no place", Check.RANGE, o -> o.paste(0, 9, 0));
    }

    private static void tooManyPieces() {
        PieceTexts x = Make.single(1024);
        x.put(0, 1, 1, 3, 0);
        x.cut(0, 600, 1, 1);
        CHECK.refusesFull(x, "paste into a piece", Check.STATE, () -> x.paste(0, 2, 1));
        CHECK.refusesFull(x, "paste into itself", Check.ARGUMENT, () -> x.paste(0, 2, 0));
        CHECK.due("paste of nothing into a piece", 1026, () -> x.paste(0, 2, 9));
        CHECK.due("paste between pieces", 1027, () -> x.paste(0, 4, 1));
        CHECK.due("count(2)", 1024, () -> x.count(2));
        x.cut(0, 600, 1, 1);
        x.cut(0, 600, 1, 2);
        x.wipe(2);
        CHECK.due("paste into a piece with room for one", 1026, () -> x.paste(0, 2, 1));
        CHECK.due("count(2)", 1024, () -> x.count(2));
        CHECK.due("count(3)", 1, () -> x.count(3));
    }

    /** A full object whose text 6 is twice the same byte, with this tag. */
    private static PieceTexts crowded(int from, int tag) {
        PieceTexts x = Make.crowded();
        x.cut(0, 0, 2, 1);
        x.wipe(1);
        x.put(6, 0, from, 1, tag);
        x.put(6, 1, from, 1, tag);
        CHECK.due("count(2)", 1024, () -> x.count(2));
        return x;
    }

    /** Each paste parts the piece xy. */
    private static void meldsWhenFull() {
        PieceTexts x = crowded(1, 4);
        CHECK.refusesFull(x, "paste of another tag", Check.STATE, () -> x.paste(5, 1, 6));
        PieceTexts y = crowded(1, 0);
        CHECK.due("paste that melds left", 6, () -> y.paste(5, 1, 6));
        CHECK.row(y, 5, "0:0+2#0 2:1+1#0 3:1+1#0 4:3+1#0 5:0+1#0");
        PieceTexts z = crowded(0, 0);
        CHECK.due("paste that melds right", 6, () -> z.paste(5, 1, 6));
        CHECK.row(z, 5, "0:0+1#0 1:0+1#0 2:0+2#0 4:3+1#0 5:0+1#0");
    }

    private static void atTheLimits() {
        PieceTexts x = Make.full();
        CHECK.due("paste with 4096 characters", 4096, () -> x.paste(0, 64, 1));
        CHECK.due("count(1)", 4096, () -> x.count(1));
        CHECK.due("count(2)", 64, () -> x.count(2));
        PieceTexts y = Make.single(512);
        y.copy(0, 0, 512, 1);
        CHECK.due("paste with 1024 pieces", 1024, () -> y.paste(1, 100, 0));
        CHECK.due("count(2)", 1024, () -> y.count(2));
    }
}

/** Promise 4: cut. */
public final class CutTest {
    private static final Check CHECK = new Check();
    private static final int MAX = Integer.MAX_VALUE;
    private static final int MIN = Integer.MIN_VALUE;

    public static void main(String[] args) {
        ranges();
        emptyRange();
        restMelds();
        noSuchTextOrRange();
        wrongInto();
        tooManyPieces();
        meldsWhenFull();
        CHECK.end();
    }

    private static void ranges() {
        PieceTexts x = Make.letters();
        CHECK.due("cut inside", 5, () -> x.cut(0, 2, 3, 1));
        CHECK.row(x, 0, "0:0+2#0 2:5+3#0");
        CHECK.row(x, 1, "0:2+3#0");
        CHECK.due("cut of the beginning", 2, () -> x.cut(0, 0, 3, 2));
        CHECK.row(x, 0, "0:6+2#0");
        CHECK.row(x, 2, "0:0+2#0 2:5+1#0");
        CHECK.due("cut of the end", 1, () -> x.cut(0, 1, 1, 3));
        CHECK.row(x, 3, "0:7+1#0");
        CHECK.due("cut of all", 0, () -> x.cut(0, 0, 1, 15));
        CHECK.due("length(0)", 0, () -> x.length(0));
        CHECK.row(x, 15, "0:6+1#0");
        CHECK.due("count(1)", 8, () -> x.count(1));
        CHECK.due("count(2)", 5, () -> x.count(2));
    }

    private static void emptyRange() {
        PieceTexts x = Make.letters();
        for (int at = 0; at <= 8; at++) {
            int place = at;
            CHECK.due("cut of nothing at " + at, 8, () -> x.cut(0, place, 0, 1));
        }
        CHECK.row(x, 0, "0:0+8#0");
        CHECK.due("length(1)", 0, () -> x.length(1));
        CHECK.due("cut of nothing from nothing", 0, () -> x.cut(2, 0, 0, 1));
        CHECK.due("count(2)", 1, () -> x.count(2));
    }

    private static void restMelds() {
        PieceTexts x = Make.letters();
        x.put(0, 4, 0, 2, 5);
        x.put(0, 6, 6, 1, 0);
        CHECK.row(x, 0, "0:0+4#0 4:0+2#5 6:6+1#0 7:4+4#0");
        CHECK.due("cut of what lies between", 8, () -> x.cut(0, 4, 3, 1));
        CHECK.row(x, 0, "0:0+8#0");
        CHECK.row(x, 1, "0:0+2#5 2:6+1#0");
        x.put(0, 4, 0, 1, 0);
        x.tag(0, 5, 4, -1, 3);
        CHECK.due("cut between different tags", 8, () -> x.cut(0, 4, 1, 2));
        CHECK.row(x, 0, "0:0+4#0 4:4+4#3");
    }

    private static void noSuchTextOrRange() {
        for (int text : new int[] {-1, 16, MIN, MAX}) {
            CHECK.refuses(Make::letters, "cut from text " + text, Check.RANGE, o -> o.cut(text, 0, 0, 1));
            CHECK.refuses(Make::letters, "cut into text " + text, Check.RANGE, o -> o.cut(0, 0, 1, text));
        }
        int[][] wrong = {{-1, 1}, {-1, 0}, {0, -1}, {4, -1}, {0, 9}, {8, 1}, {9, 0}, {1, MAX}, {MAX, 1}, {MAX, MAX},
            {MIN, MAX}, {0, MIN}, {8, MIN}, {MAX, MIN}};
        for (int[] w : wrong) {
            CHECK.refuses(Make::letters, "cut of " + w[0] + ", " + w[1], Check.RANGE, o -> o.cut(0, w[0], w[1], 1));
        }
    }

    private static void wrongInto() {
        CHECK.refuses(Make::twoTexts, "cut into itself", Check.ARGUMENT, o -> o.cut(0, 0, 2, 0));
        CHECK.refuses(Make::twoTexts, "cut of nothing into itself", Check.ARGUMENT, o -> o.cut(0, 0, 0, 0));
        CHECK.refuses(Make::twoTexts, "cut from an empty text into itself", Check.ARGUMENT, o -> o.cut(2, 0, 0, 2));
        CHECK.refuses(Make::twoTexts, "cut into characters", Check.ARGUMENT, o -> o.cut(0, 0, 2, 1));
        CHECK.refuses(Make::twoTexts, "cut of nothing into characters", Check.ARGUMENT, o -> o.cut(0, 0, 0, 1));
        CHECK.refuses(Make::twoTexts, "cut of no range into characters", Check.RANGE, o -> o.cut(0, 0, 9, 1));
        CHECK.refuses(Make::twoTexts, "cut of no range into itself", Check.RANGE, o -> o.cut(0, 9, 0, 0));
    }

    /** The cut parts one piece and lets the rests of two others meld: no piece more. */
    private static void meldsWhenFull() {
        PieceTexts x = Make.crowded();
        x.cut(0, 0, 2, 1);
        x.wipe(1);
        x.put(5, 2, 0, 2, 7);
        x.put(5, 4, 2, 1, 0);
        CHECK.row(x, 5, "0:0+2#0 2:0+2#7 4:2+2#0 6:0+1#0");
        x.put(0, 0, 0, 1, 3);
        CHECK.due("count(2)", 1024, () -> x.count(2));
        CHECK.refusesFull(x, "cut of a part", Check.STATE, () -> x.cut(5, 1, 1, 1));
        CHECK.refusesFull(x, "cut of a part and a piece", Check.STATE, () -> x.cut(5, 1, 3, 1));
        CHECK.due("cut of what lies between", 5, () -> x.cut(5, 2, 2, 1));
        CHECK.row(x, 5, "0:0+4#0 4:0+1#0");
        CHECK.due("count(2)", 1023, () -> x.count(2));
    }

    private static void tooManyPieces() {
        PieceTexts x = Make.single(1024);
        x.put(0, 1, 1, 3, 0);
        CHECK.row(x, 1, "");
        CHECK.refusesFull(x, "cut of a piece's end", Check.STATE, () -> x.cut(0, 2, 2, 1));
        CHECK.refusesFull(x, "cut of a piece's middle", Check.STATE, () -> x.cut(0, 1, 2, 1));
        CHECK.refusesFull(x, "cut of two pieces' parts", Check.STATE, () -> x.cut(0, 3, 2, 1));
        CHECK.refusesFull(x, "cut into itself", Check.ARGUMENT, () -> x.cut(0, 2, 2, 0));
        CHECK.due("cut of a whole piece", 1023, () -> x.cut(0, 0, 4, 1));
        CHECK.due("cut of nothing inside", 4, () -> x.cut(1, 2, 0, 2));
        x.cut(0, 0, 1, 2);
        x.wipe(2);
        CHECK.refusesFull(x, "cut of a piece's middle with room for one", Check.STATE, () -> x.cut(1, 1, 2, 2));
        CHECK.due("cut of a piece's end with room for one", 2, () -> x.cut(1, 2, 2, 2));
        CHECK.due("count(2)", 1024, () -> x.count(2));
        CHECK.due("count(3)", 1, () -> x.count(3));
    }
}

/** Promise 7: tag. */
public final class TagTest {
    private static final Check CHECK = new Check();
    private static final int MAX = Integer.MAX_VALUE;
    private static final int MIN = Integer.MIN_VALUE;

    public static void main(String[] args) {
        masks();
        ranges();
        piecesMeld();
        emptyRange();
        noSuchTextOrRange();
        tooManyPieces();
        meldsWhenFull();
        manyMeld();
        CHECK.end();
    }

    private static void masks() {
        PieceTexts x = Make.letters();
        CHECK.due("tag of all bits", 1, () -> x.tag(0, 0, 8, -1, 0x12345678));
        CHECK.row(x, 0, "0:0+8#" + 0x12345678);
        CHECK.due("tag of some bits", 1, () -> x.tag(0, 0, 8, 0xff00, 0xabcdef01));
        CHECK.row(x, 0, "0:0+8#" + 0x1234ef78);
        CHECK.due("tag of no bits", 1, () -> x.tag(0, 0, 8, 0, -1));
        CHECK.row(x, 0, "0:0+8#" + 0x1234ef78);
        CHECK.due("tag of the highest bit", 1, () -> x.tag(0, 0, 8, MIN, MIN));
        CHECK.row(x, 0, "0:0+8#" + 0x9234ef78);
        CHECK.due("tag of the highest bit back", 1, () -> x.tag(0, 0, 8, MIN, MAX));
        CHECK.row(x, 0, "0:0+8#" + 0x1234ef78);
    }

    private static void ranges() {
        PieceTexts x = Make.letters();
        CHECK.due("tag inside", 3, () -> x.tag(0, 3, 2, 7, 5));
        CHECK.row(x, 0, "0:0+3#0 3:3+2#5 5:5+3#0");
        CHECK.due("tag of parts of three pieces", 5, () -> x.tag(0, 2, 4, 8, 8));
        CHECK.row(x, 0, "0:0+2#0 2:2+1#8 3:3+2#13 5:5+1#8 6:6+2#0");
        CHECK.due("tag of the first one", 6, () -> x.tag(0, 0, 1, -1, -1));
        CHECK.due("tag of the last one", 7, () -> x.tag(0, 7, 1, -1, -1));
        CHECK.row(x, 0, "0:0+1#-1 1:1+1#0 2:2+1#8 3:3+2#13 5:5+1#8 6:6+1#0 7:7+1#-1");
        x.put(1, 0, 0, 2, 0);
        CHECK.due("tag in another text", 2, () -> x.tag(1, 0, 1, 1, 1));
        CHECK.due("count(2)", 9, () -> x.count(2));
        CHECK.due("count(1)", 10, () -> x.count(1));
    }

    private static void piecesMeld() {
        PieceTexts x = Make.letters();
        x.tag(0, 3, 2, -1, 6);
        CHECK.due("tag as the left one", 3, () -> x.tag(0, 3, 1, -1, 0));
        CHECK.row(x, 0, "0:0+4#0 4:4+1#6 5:5+3#0");
        CHECK.due("tag as both", 1, () -> x.tag(0, 4, 1, -1, 0));
        CHECK.row(x, 0, "0:0+8#0");
        x.tag(0, 2, 4, 1, 1);
        x.tag(0, 3, 2, 2, 2);
        CHECK.row(x, 0, "0:0+2#0 2:2+1#1 3:3+2#3 5:5+1#1 6:6+2#0");
        CHECK.due("tag that melds within", 3, () -> x.tag(0, 1, 6, -1, 4));
        CHECK.row(x, 0, "0:0+1#0 1:1+6#4 7:7+1#0");
        x.put(0, 4, 0, 1, 4);
        CHECK.row(x, 0, "0:0+1#0 1:1+3#4 4:0+1#4 5:4+3#4 8:7+1#0");
        CHECK.due("tag of what has other sources", 3, () -> x.tag(0, 0, 9, -1, 0));
        CHECK.row(x, 0, "0:0+4#0 4:0+1#0 5:4+4#0");
    }

    private static void emptyRange() {
        PieceTexts x = Make.letters();
        x.tag(0, 3, 2, -1, 6);
        for (int at = 0; at <= 8; at++) {
            int place = at;
            CHECK.due("tag of nothing at " + at, 3, () -> x.tag(0, place, 0, -1, 1));
        }
        CHECK.row(x, 0, "0:0+3#0 3:3+2#6 5:5+3#0");
        CHECK.due("tag in an empty text", 0, () -> x.tag(1, 0, 0, -1, 1));
    }

    private static void noSuchTextOrRange() {
        for (int text : new int[] {-1, 16, MIN, MAX}) {
            CHECK.refuses(Make::letters, "tag in text " + text, Check.RANGE, o -> o.tag(text, 0, 0, -1, 1));
        }
        int[][] wrong = {{-1, 1}, {-1, 0}, {0, -1}, {0, 9}, {8, 1}, {9, 0}, {1, MAX}, {MAX, 1}, {MAX, MAX}, {MIN, MAX},
            {0, MIN}, {MAX, MIN}};
        for (int[] w : wrong) {
            String range = w[0] + ", " + w[1];
            CHECK.refuses(Make::letters, "tag of " + range, Check.RANGE, o -> o.tag(0, w[0], w[1], -1, 1));
            CHECK.refuses(Make::letters, "tag to what it is of " + range, Check.RANGE, o -> o.tag(0, w[0], w[1], 1, 0));
            CHECK.refuses(Make::letters, "tag of no bits of " + range, Check.RANGE, o -> o.tag(0, w[0], w[1], 0, 0));
        }
    }

    private static void tooManyPieces() {
        PieceTexts x = Make.single(1024);
        x.put(0, 1, 1, 3, 0);
        CHECK.refusesFull(x, "tag of a piece's end", Check.STATE, () -> x.tag(0, 3, 1, -1, 1));
        CHECK.refusesFull(x, "tag of a piece's middle", Check.STATE, () -> x.tag(0, 1, 2, -1, 1));
        CHECK.refusesFull(x, "tag of a part and others", Check.STATE, () -> x.tag(0, 2, 700, 1, 1));
        CHECK.due("tag of a piece's middle to what it is", 1024, () -> x.tag(0, 1, 2, -1, 0));
        CHECK.due("tag of a whole piece", 1024, () -> x.tag(0, 0, 4, -1, 1));
        CHECK.due("tag of all", 1024, () -> x.tag(0, 0, 1027, 2, 2));
        x.cut(0, 1026, 1, 1);
        x.wipe(1);
        CHECK.refusesFull(x, "tag of a middle with room for one", Check.STATE, () -> x.tag(0, 1, 2, -1, 9));
        CHECK.due("tag of an end with room for one", 1024, () -> x.tag(0, 3, 1, -1, 9));
        CHECK.due("tag that moves a border", 1024, () -> x.tag(0, 2, 1, -1, 9));
        CHECK.due("look(0, 1, 2)", 3, () -> x.look(0, 1, 2));
        CHECK.due("look(0, 2, 2)", 9, () -> x.look(0, 2, 2));
        CHECK.due("count(2)", 1024, () -> x.count(2));
    }

    /** Tags part a piece at one end of the range, and let others meld within it or at its other end. */
    private static void meldsWhenFull() {
        PieceTexts x = Make.crowded();
        x.cut(0, 0, 1, 1);
        x.wipe(1);
        x.put(5, 4, 1, 1, 0);
        x.tag(5, 3, 1, -1, 6);
        CHECK.due("count(2)", 1024, () -> x.count(2));
        CHECK.row(x, 5, "0:0+2#0 2:3+1#0 3:0+1#6 4:1+1#0");
        CHECK.refusesFull(x, "tag that parts only", Check.STATE, () -> x.tag(5, 1, 2, -1, 9));
        CHECK.refusesFull(x, "tag that keeps the two apart", Check.STATE, () -> x.tag(5, 1, 4, 1, 1));
        CHECK.due("tag that lets the two meld", 4, () -> x.tag(5, 1, 4, -1, 9));
        CHECK.row(x, 5, "0:0+1#0 1:1+1#9 2:3+1#9 3:0+2#9");
        CHECK.due("tag that melds left", 3, () -> x.tag(5, 1, 1, -1, 0));
        CHECK.row(x, 5, "0:0+2#0 2:3+1#9 3:0+2#9");
    }

    /** Places of a long piece get tags of their own and lose them in one call. */
    private static void manyMeld() {
        PieceTexts x = Make.written("abcdefgh", "abcdefgh", "abcdefgh", "abcdefgh", "abcdefgh", "abcdefgh", "abcdefgh");
        x.put(0, 0, 0, 56, 0);
        for (int i = 1; i < 56; i += 2) {
            x.tag(0, i, 1, 3, 1);
        }
        CHECK.due("count(2)", 56, () -> x.count(2));
        CHECK.due("tag that changes other bits", 56, () -> x.tag(0, 0, 56, 4, 4));
        CHECK.due("tag that melds the middle", 20, () -> x.tag(0, 10, 36, 3, 0));
        CHECK.due("tag that melds all", 1, () -> x.tag(0, 0, 56, 1, 1));
        CHECK.row(x, 0, "0:0+56#5");
        CHECK.due("count(3)", 1, () -> x.count(3));
    }
}

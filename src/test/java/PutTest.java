/** Promise 3: put. */
public final class PutTest {
    private static final Check CHECK = new Check();
    private static final int MAX = Integer.MAX_VALUE;
    private static final int MIN = Integer.MIN_VALUE;

    public static void main(String[] args) {
        places();
        neighboursMeld();
        tagsKeepApart();
        noSuchTextOrPlace();
        noSuchBytes();
        tooManyCharacters();
        tooManyPieces();
        meldsWhenFull();
        CHECK.end();
    }

    private static void places() {
        PieceTexts x = Make.written("abcdefgh");
        CHECK.due("put at the end of nothing", 2, () -> x.put(3, 0, 4, 2, 9));
        CHECK.due("put before all", 3, () -> x.put(3, 0, 7, 1, 8));
        CHECK.due("put at the end", 6, () -> x.put(3, 3, 0, 3, -5));
        CHECK.row(x, 3, "0:7+1#8 1:4+2#9 3:0+3#-5");
        CHECK.due("put inside a piece", 7, () -> x.put(3, 2, 2, 1, 9));
        CHECK.row(x, 3, "0:7+1#8 1:4+1#9 2:2+1#9 3:5+1#9 4:0+3#-5");
        CHECK.due("length of another text", 0, () -> x.length(0));
        CHECK.due("count(1)", 7, () -> x.count(1));
    }

    private static void neighboursMeld() {
        PieceTexts x = Make.written("abcdefgh");
        x.put(0, 0, 0, 2, 0);
        x.put(0, 2, 4, 2, 0);
        CHECK.row(x, 0, "0:0+2#0 2:4+2#0");
        CHECK.due("put of what lies between", 6, () -> x.put(0, 2, 2, 2, 0));
        CHECK.row(x, 0, "0:0+6#0");
        CHECK.due("put with the left one", 7, () -> x.put(0, 6, 6, 1, 0));
        CHECK.row(x, 0, "0:0+7#0");
        CHECK.due("put inside, on with its left part", 8, () -> x.put(0, 3, 3, 1, 0));
        CHECK.row(x, 0, "0:0+4#0 4:3+4#0");
        CHECK.due("put with the right one", 9, () -> x.put(0, 4, 2, 1, 0));
        CHECK.row(x, 0, "0:0+4#0 4:2+5#0");
        CHECK.due("count(2)", 2, () -> x.count(2));
    }

    private static void tagsKeepApart() {
        PieceTexts x = Make.written("abcdefgh");
        x.put(0, 0, 0, 2, 1);
        x.put(0, 2, 2, 2, 2);
        x.put(0, 4, 4, 2, 1);
        CHECK.row(x, 0, "0:0+2#1 2:2+2#2 4:4+2#1");
        x.put(1, 0, 0, 1, Integer.MIN_VALUE);
        x.put(1, 1, 1, 1, Integer.MAX_VALUE);
        CHECK.row(x, 1, "0:0+1#-2147483648 1:1+1#2147483647");
        x.put(2, 0, 1, 1, 0);
        x.put(2, 1, 1, 1, 0);
        x.put(2, 2, 0, 1, 0);
        CHECK.row(x, 2, "0:1+1#0 1:1+1#0 2:0+1#0");
    }

    private static void noSuchTextOrPlace() {
        PieceTexts x = Make.letters();
        for (int text : new int[] {-1, 16, MIN, MAX}) {
            CHECK.refuses(Make::letters, "put into text " + text, Check.RANGE, o -> o.put(text, 0, 0, 1, 0));
        }
        for (int at : new int[] {-1, 9, MIN, MAX}) {
            CHECK.refuses(Make::letters, "put at " + at, Check.RANGE, o -> o.put(0, at, 0, 1, 0));
        }
        CHECK.due("put into text 15", 1, () -> x.put(15, 0, 0, 1, 0));
    }

    private static void noSuchBytes() {
        PieceTexts x = Make.letters();
        int[][] wrong = {{0, 0}, {0, -1}, {-1, 1}, {-1, 2}, {0, 9}, {8, 1}, {7, 2}, {9, 0}, {8, 0}, {1, MAX}, {MAX, 1},
            {MAX, MAX}, {MIN, MIN}, {0, MIN}, {MIN, 1}, {MIN, MAX}, {0, MAX}};
        for (int[] w : wrong) {
            CHECK.refuses(Make::letters, "put of " + w[1] + " from " + w[0], Check.RANGE,
                    o -> o.put(0, 0, w[0], w[1], 0));
        }
        CHECK.due("put of the last byte", 9, () -> x.put(0, 8, 7, 1, 0));
        CHECK.refuses(PieceTexts::new, "put of an empty buffer", Check.RANGE, o -> o.put(0, 0, 0, 1, 0));
    }

    private static void tooManyCharacters() {
        PieceTexts x = Make.full();
        CHECK.refusesFull(x, "put behind 4096", Check.STATE, () -> x.put(5, 0, 0, 1, 0));
        CHECK.refusesFull(x, "put of no such bytes behind 4096", Check.RANGE, () -> x.put(5, 0, 0, 65, 0));
        x.cut(1, 0, 3, 2);
        x.wipe(2);
        CHECK.refusesFull(x, "put of 4 behind 4093", Check.STATE, () -> x.put(1, 0, 0, 4, 0));
        CHECK.due("put of 3 behind 4093", 2048, () -> x.put(1, 0, 0, 3, 0));
        CHECK.due("count(1)", 4096, () -> x.count(1));
    }

    private static void tooManyPieces() {
        PieceTexts x = Make.single(1024);
        CHECK.refusesFull(x, "put behind 1024 pieces", Check.STATE, () -> x.put(1, 0, 0, 1, 0));
        CHECK.refusesFull(x, "put of another tag", Check.STATE, () -> x.put(0, 1, 1, 1, 7));
        CHECK.due("put that melds left", 1026, () -> x.put(0, 1, 1, 2, 0));
        CHECK.due("count(2)", 1024, () -> x.count(2));
        CHECK.refusesFull(x, "put into a piece", Check.STATE, () -> x.put(0, 1, 3, 1, 0));
        CHECK.refusesFull(x, "put into a piece, melding left", Check.STATE, () -> x.put(0, 1, 1, 1, 0));
        x.cut(0, 1000, 2, 1);
        x.wipe(1);
        CHECK.due("count(2)", 1022, () -> x.count(2));
        CHECK.due("put into a piece", 1025, () -> x.put(0, 1, 3, 1, 0));
        CHECK.due("count(2)", 1024, () -> x.count(2));
        CHECK.due("count(3)", 1, () -> x.count(3));
    }

    private static void meldsWhenFull() {
        PieceTexts x = Make.crowded();
        CHECK.due("count(2)", 1024, () -> x.count(2));
        CHECK.refusesFull(x, "put that melds with none", Check.STATE, () -> x.put(5, 2, 1, 1, 0));
        CHECK.refusesFull(x, "put that would meld but for its tag", Check.STATE, () -> x.put(5, 2, 2, 1, 1));
        CHECK.due("put that melds right", 6, () -> x.put(5, 2, 1, 2, 0));
        CHECK.row(x, 5, "0:0+2#0 2:1+3#0 5:0+1#0");
        CHECK.due("put that melds left", 7, () -> x.put(5, 6, 1, 1, 0));
        PieceTexts y = Make.crowded();
        CHECK.due("put that melds on both sides", 5, () -> y.put(5, 2, 2, 1, 0));
        CHECK.row(y, 5, "0:0+4#0 4:0+1#0");
        CHECK.due("count(2)", 1023, () -> y.count(2));
    }
}

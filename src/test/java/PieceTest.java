/** Promise 11: piece. */
public final class PieceTest {
    private static final Check CHECK = new Check();

    public static void main(String[] args) {
        everyPiece();
        wrongPieces();
        wrongWhat();
        manyPieces();
        CHECK.end();
    }

    private static void everyPiece() {
        PieceTexts x = Make.letters();
        x.put(0, 3, 6, 2, -7);
        x.put(0, 0, 2, 1, 4);
        int[][] due = {{0, 2, 1, 4}, {1, 0, 3, 0}, {4, 6, 2, -7}, {6, 3, 5, 0}};
        for (int i = 0; i < due.length; i++) {
            for (int j = 0; j < 4; j++) {
                int k = i;
                int what = j;
                CHECK.due("piece(0, " + k + ", " + what + ")", due[k][what], () -> x.piece(0, k, what));
            }
        }
    }

    private static PieceTexts twoPieces() {
        PieceTexts x = Make.letters();
        x.tag(0, 0, 4, -1, 1);
        return x;
    }

    private static void wrongPieces() {
        for (int text : new int[] {-1, 16, Integer.MIN_VALUE, Integer.MAX_VALUE}) {
            CHECK.refuses(PieceTest::twoPieces, "piece of text " + text, Check.RANGE, o -> o.piece(text, 0, 0));
        }
        for (int k : new int[] {-1, 2, 3, Integer.MIN_VALUE, Integer.MAX_VALUE}) {
            CHECK.refuses(PieceTest::twoPieces, "piece " + k, Check.RANGE, o -> o.piece(0, k, 1));
            CHECK.refuses(PieceTest::twoPieces, "piece " + k + " for 4", Check.RANGE, o -> o.piece(0, k, 4));
        }
        CHECK.refuses(PieceTest::twoPieces, "piece of an empty text", Check.RANGE, o -> o.piece(1, 0, 3));
    }

    private static void wrongWhat() {
        for (int what : new int[] {-1, 4, 5, Integer.MIN_VALUE, Integer.MAX_VALUE}) {
            CHECK.refuses(Make::letters, "piece for " + what, Check.ARGUMENT, o -> o.piece(0, 0, what));
        }
    }

    private static void manyPieces() {
        PieceTexts x = Make.single(1024);
        x.put(0, 300, 1, 2, 0);
        for (int i = 0; i < 1024; i += 31) {
            int k = i;
            CHECK.due("start of piece " + k, k < 300 ? k : k + 2, () -> x.piece(0, k, 0));
            CHECK.due("source of piece " + k, 0, () -> x.piece(0, k, 1));
            CHECK.due("size of piece " + k, 1, () -> x.piece(0, k, 2));
        }
        CHECK.due("size of piece 299", 3, () -> x.piece(0, 299, 2));
        CHECK.due("piece 1024", Check.RANGE, Check.answer(() -> x.piece(0, 1024, 0)));
    }
}

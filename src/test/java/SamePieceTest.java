/**
 * "Two neighbours of a text are in the same piece if the right one's source
 * is the left one's plus 1 and their tags are the same."
 */
public final class SamePieceTest {
    private static final Check CHECK = new Check();
    private static final int[] TAGS = {0, 1, -1, 2, Integer.MIN_VALUE, Integer.MAX_VALUE, 255, 256, 65535, 65536};

    public static void main(String[] args) {
        everyPairOfSources();
        everyPairOfTags();
        everyBitOfATag();
        sourcesFarBehind();
        lastByteAndFirst();
        samePieceOnlyWithinAText();
        bytesDoNotCount();
        longestPiece();
        byEveryChange();
        CHECK.end();
    }

    private static PieceTexts pair(int left, int leftTag, int right, int rightTag) {
        PieceTexts x = Make.written("abcdefgh");
        x.put(0, 0, left, 1, leftTag);
        x.put(0, 1, right, 1, rightTag);
        return x;
    }

    private static void together(PieceTexts x, String what, boolean due) {
        CHECK.due("count(2) of " + what, due ? 1 : 2, () -> x.count(2));
        CHECK.due("piece of the right one of " + what, due ? 0 : 1, () -> x.look(0, 1, 3));
        CHECK.due("size of piece 0 of " + what, due ? 2 : 1, () -> x.piece(0, 0, 2));
        CHECK.due("piece 1 of " + what, due ? Check.RANGE : "1", Check.answer(() -> x.piece(0, 1, 0)));
    }

    private static void everyPairOfSources() {
        for (int left = 0; left < 8; left++) {
            for (int right = 0; right < 8; right++) {
                together(pair(left, 3, right, 3), left + " and " + right, right == left + 1);
            }
        }
    }

    private static void everyPairOfTags() {
        for (int left : TAGS) {
            for (int right : TAGS) {
                together(pair(3, left, 4, right), "tags " + left + " and " + right, left == right);
            }
        }
    }

    private static void everyBitOfATag() {
        for (int bit = 0; bit < 32; bit++) {
            int one = 1 << bit;
            PieceTexts x = pair(0, 0x5a5a5a5a, 1, 0x5a5a5a5a ^ one);
            together(x, "tags that differ in bit " + bit, false);
            CHECK.due("tag of bit " + one, 1, () -> x.tag(0, 0, 2, one, one));
            together(x, "tags with bit " + bit, true);
            CHECK.due("tag of the right one's bit " + one, 2, () -> x.tag(0, 1, 1, one, 0));
            together(x, "tags again without bit " + bit, false);
        }
    }

    private static void sourcesFarBehind() {
        for (int left : new int[] {126, 127, 254, 255, 256, 510, 511, 1022, 1023, 1024, 2045, 2046}) {
            for (int step = -1; step <= 2; step++) {
                int right = left + step;
                if (right < 2048) {
                    PieceTexts x = Make.buffer(2048);
                    x.put(0, 0, left, 1, 0);
                    x.put(0, 1, right, 1, 0);
                    together(x, left + " and " + right, step == 1);
                }
            }
        }
    }

    private static void lastByteAndFirst() {
        PieceTexts x = Make.buffer(2048);
        x.put(0, 0, 2047, 1, 0);
        x.put(0, 1, 0, 1, 0);
        together(x, "2047 and 0", false);
        PieceTexts y = Make.buffer(2048);
        y.put(0, 0, 0, 1, 0);
        y.put(0, 1, 2047, 1, 0);
        together(y, "0 and 2047", false);
    }

    private static void samePieceOnlyWithinAText() {
        PieceTexts x = Make.written("abcdefgh");
        x.put(0, 0, 0, 4, 0);
        x.put(1, 0, 4, 4, 0);
        CHECK.due("count(2) of two texts", 2, () -> x.count(2));
        CHECK.row(x, 0, "0:0+4#0");
        CHECK.row(x, 1, "0:4+4#0");
    }

    /** Neither equal bytes nor bytes that follow one another make a piece: only sources do. */
    private static void bytesDoNotCount() {
        PieceTexts x = Make.written("aaab", "ab");
        x.put(0, 0, 0, 1, 0);
        x.put(0, 1, 3, 1, 0);
        together(x, "a and b with other sources", false);
        PieceTexts y = Make.written("zaqa");
        y.put(0, 0, 1, 2, 0);
        CHECK.due("count(2) of bytes that don't follow", 1, () -> y.count(2));
    }

    private static void longestPiece() {
        PieceTexts x = Make.buffer(2048);
        for (int i = 0; i < 64; i++) {
            x.put(0, 32 * i, 32 * i, 32, -5);
        }
        CHECK.due("count(2) of all bytes", 1, () -> x.count(2));
        CHECK.row(x, 0, "0:0+2048#-5");
        CHECK.due("put of all again", 4096, () -> x.put(0, 2048, 0, 2048, -5));
        CHECK.row(x, 0, "0:0+2048#-5 2048:0+2048#-5");
    }

    /** "So that a text has just one row of pieces": whichever way it has come to its characters. */
    private static void byEveryChange() {
        String due = "0:0+8#0";
        PieceTexts put = Make.letters();
        CHECK.row(put, 0, due);
        PieceTexts pieceByPiece = Make.written("abcdefgh");
        for (int from = 7; from >= 0; from--) {
            pieceByPiece.put(0, 0, from, 1, 0);
        }
        CHECK.row(pieceByPiece, 0, due);
        PieceTexts cut = Make.letters();
        cut.put(0, 4, 4, 4, 1);
        cut.cut(0, 4, 4, 1);
        CHECK.row(cut, 0, due);
        PieceTexts pasted = Make.letters();
        pasted.cut(0, 2, 3, 1);
        pasted.paste(0, 2, 1);
        CHECK.row(pasted, 0, due);
        PieceTexts tagged = Make.letters();
        tagged.tag(0, 2, 3, 6, 2);
        tagged.tag(0, 2, 3, 2, 0);
        CHECK.row(tagged, 0, due);
        PieceTexts copied = Make.letters();
        copied.copy(0, 0, 8, 1);
        CHECK.row(copied, 1, due);
    }
}

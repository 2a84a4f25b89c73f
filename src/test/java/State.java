/** What the calls of the face tell of an object, as a text. */
final class State {
    private static final int TEXTS = 16;

    private State() {
    }

    /** Four calls a piece and some twenty more: for small texts, as an object has 512 calls. */
    static String of(PieceTexts x) {
        StringBuilder s = new StringBuilder(counts(x));
        for (int t = 0; t < TEXTS; t++) {
            s.append(" | ").append(row(x, t));
        }
        return s.toString();
    }

    static String inShort(PieceTexts x) {
        StringBuilder s = new StringBuilder(counts(x));
        for (int t = 0; t < TEXTS; t++) {
            int length = x.length(t);
            s.append(" | ").append(length);
            if (length > 0) {
                s.append(' ').append(piece(x, t, 0)).append(" .. ").append(piece(x, t, x.look(t, length - 1, 3)));
            }
        }
        return s.toString();
    }

    /** The pieces of a text as place:source+size#tag. */
    static String row(PieceTexts x, int t) {
        StringBuilder s = new StringBuilder();
        int length = x.length(t);
        int place = 0;
        for (int k = 0; place < length; k++) {
            s.append(k == 0 ? "" : " ").append(piece(x, t, k));
            place += x.piece(t, k, 2);
        }
        return s.toString();
    }

    private static String piece(PieceTexts x, int t, int k) {
        return x.piece(t, k, 0) + ":" + x.piece(t, k, 1) + "+" + x.piece(t, k, 2) + "#" + x.piece(t, k, 3);
    }

    private static String counts(PieceTexts x) {
        return x.count(0) + " bytes, " + x.count(1) + " characters, " + x.count(2) + " pieces";
    }
}

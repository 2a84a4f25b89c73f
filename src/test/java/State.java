/** What the calls of the face tell of an object, as a text. */
final class State {
    private static final int TEXTS = 16;

    /** Pieces read from one object of many: five calls each leave room for what made the object. */
    private static final int PORTION = 40;

    private State() {
    }

    /** Four calls a piece, one a character and some twenty more: for small texts, as an object has 512 calls. */
    static String of(PieceTexts x) {
        StringBuilder s = new StringBuilder(counts(x));
        for (int t = 0; t < TEXTS; t++) {
            s.append(" | ").append(row(x, t)).append(bytes(x, t));
        }
        return s.toString();
    }

    /** Of a big object: a portion of its pieces from each of as many objects of its kind as that takes. */
    static String whole(Check.Maker maker) {
        StringBuilder s = new StringBuilder();
        int all = 1;
        for (int from = 0; from < all; from += PORTION) {
            PieceTexts x = maker.make();
            all = x.count(2);
            s.append(counts(x));
            portion(s, x, from);
        }
        return s.toString();
    }

    private static void portion(StringBuilder s, PieceTexts x, int from) {
        int passed = 0;
        for (int t = 0; t < TEXTS; t++) {
            int length = x.length(t);
            int pieces = length < 1 ? 0 : x.look(t, length - 1, 3) + 1;
            s.append(" | ").append(length);
            for (int k = Math.max(0, from - passed); k < pieces && passed + k < from + PORTION; k++) {
                s.append(' ').append(piece(x, t, k)).append('=').append(x.look(t, x.piece(t, k, 0), 0));
            }
            passed += pieces;
        }
        s.append('\n');
    }

    static String inShort(PieceTexts x) {
        StringBuilder s = new StringBuilder(counts(x));
        for (int t = 0; t < TEXTS; t++) {
            int length = x.length(t);
            s.append(" | ").append(length);
            if (length > 0) {
                s.append(' ').append(piece(x, t, 0)).append(" .. ").append(piece(x, t, x.look(t, length - 1, 3)));
            }
        }
        return s.toString();
    }

    /** The pieces of a text as place:source+size#tag. */
    static String row(PieceTexts x, int t) {
        StringBuilder s = new StringBuilder();
        int length = x.length(t);
        int place = 0;
        for (int k = 0; place < length; k++) {
            s.append(k == 0 ? "" : " ").append(piece(x, t, k));
            place += x.piece(t, k, 2);
        }
        return s.toString();
    }

    private static String bytes(PieceTexts x, int t) {
        StringBuilder s = new StringBuilder();
        int length = x.length(t);
        for (int at = 0; at < length; at++) {
            s.append(at == 0 ? "=" : ",").append(x.look(t, at, 0));
        }
        return s.toString();
    }

    private static String piece(PieceTexts x, int t, int k) {
        return x.piece(t, k, 0) + ":" + x.piece(t, k, 1) + "+" + x.piece(t, k, 2) + "#" + x.piece(t, k, 3);
    }

    private static String counts(PieceTexts x) {
        return x.count(0) + " bytes, " + x.count(1) + " characters, " + x.count(2) + " pieces";
    }
}

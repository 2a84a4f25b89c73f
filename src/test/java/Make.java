/** Objects to begin a test with. */
final class Make {
    private Make() {
    }

    /** The bytes of a text, the first one lowest, as write takes them. */
    static long bytes(String s) {
        long all = 0;
        for (int i = s.length() - 1; i >= 0; i--) {
            all = all << 8 | (s.charAt(i) & 255);
        }
        return all;
    }

    static PieceTexts written(String... parts) {
        PieceTexts x = new PieceTexts();
        for (String part : parts) {
            x.write(bytes(part));
        }
        return x;
    }

    /** A buffer of abcdefgh, and text 0 made of all of it with tag 0. */
    static PieceTexts letters() {
        PieceTexts x = written("abcdefgh");
        x.put(0, 0, 0, 8, 0);
        return x;
    }

    /** The same, and text 1 is its first letter. */
    static PieceTexts twoTexts() {
        PieceTexts x = letters();
        x.put(1, 0, 0, 1, 0);
        return x;
    }

    /** A buffer of xyzw; text 0 has so many pieces (a power of 2) of one character, all x with tag 0. */
    static PieceTexts single(int pieces) {
        PieceTexts x = written("xyzw");
        x.put(0, 0, 0, 1, 0);
        grow(x, pieces);
        return x;
    }

    /** The same bytes; text 5 has the pieces xy, w and x with tag 0, text 0 has 1021 of one character. */
    static PieceTexts crowded() {
        PieceTexts x = single(1024);
        x.cut(0, 1021, 3, 1);
        x.wipe(1);
        x.put(5, 0, 0, 2, 0);
        x.put(5, 2, 3, 1, 0);
        x.put(5, 3, 0, 1, 0);
        return x;
    }

    /** A buffer of 64 bytes; text 0 has 2048 characters in 32 pieces of all of them. */
    static PieceTexts halfFull() {
        PieceTexts x = new PieceTexts();
        for (int i = 0; i < 8; i++) {
            x.write(bytes("abcdefgh"));
        }
        x.put(0, 0, 0, 64, 0);
        grow(x, 2048);
        return x;
    }

    /** The same, and text 1 is a copy of text 0: 4096 characters in all. */
    static PieceTexts full() {
        PieceTexts x = halfFull();
        x.copy(0, 0, 2048, 1);
        return x;
    }

    /** Text 0 has all 4096 characters, in 64 pieces of 64. */
    static PieceTexts oneFull() {
        PieceTexts x = full();
        x.paste(0, 2048, 1);
        return x;
    }

    /** Text 0 has so many characters, of the same 64 bytes, and there are no others. */
    static PieceTexts characters(int n) {
        PieceTexts x = oneFull();
        x.cut(0, n, 4096 - n, 1);
        x.wipe(1);
        return x;
    }

    /** Every text has 256 characters in 4 pieces: 4096 in all. */
    static PieceTexts sixteenFull() {
        PieceTexts x = characters(256);
        for (int t = 1; t < 16; t++) {
            x.copy(0, 0, 256, t);
        }
        return x;
    }

    /** A buffer of xyzw; text 0 has so many pieces of one character, and there are no others. */
    static PieceTexts pieces(int n) {
        PieceTexts x = single(1024);
        x.cut(0, n, 1024 - n, 1);
        x.wipe(1);
        return x;
    }

    /** Every text has 64 pieces of one character: 1024 in all. */
    static PieceTexts sixteenCrowded() {
        PieceTexts x = pieces(64);
        for (int t = 1; t < 16; t++) {
            x.copy(0, 0, 64, t);
        }
        return x;
    }

    /** So many bytes, number i being i % 255 + 1: up to 256 calls. */
    static PieceTexts buffer(int n) {
        PieceTexts x = new PieceTexts();
        for (int first = 0; first < n; first += 8) {
            long s = 0;
            for (int i = Math.min(n, first + 8) - 1; i >= first; i--) {
                s = s << 8 | i % 255 + 1;
            }
            x.write(s);
        }
        return x;
    }

    static void grow(PieceTexts x, int length) {
        for (int n = x.length(0); n < length; n = x.length(0)) {
            x.copy(0, 0, n, 1);
            x.paste(0, n, 1);
        }
    }
}

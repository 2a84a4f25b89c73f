/** Promise 10: look. */
public final class LookTest {
    private static final Check CHECK = new Check();

    public static void main(String[] args) {
        everyCharacter();
        wrongPlaces();
        wrongWhat();
        manyPieces();
        CHECK.end();
    }

    private static void everyCharacter() {
        PieceTexts x = Make.letters();
        x.put(0, 3, 6, 2, -7);
        x.put(0, 0, 2, 1, 4);
        int[] source = {2, 0, 1, 2, 6, 7, 3, 4, 5, 6, 7};
        int[] tag = {4, 0, 0, 0, -7, -7, 0, 0, 0, 0, 0};
        int[] order = {0, 1, 1, 1, 2, 2, 3, 3, 3, 3, 3};
        for (int i = 0; i < source.length; i++) {
            int at = i;
            CHECK.due("byte at " + at, 'a' + source[at], () -> x.look(0, at, 0));
            CHECK.due("source at " + at, source[at], () -> x.look(0, at, 1));
            CHECK.due("tag at " + at, tag[at], () -> x.look(0, at, 2));
            CHECK.due("piece at " + at, order[at], () -> x.look(0, at, 3));
        }
    }

    private static void wrongPlaces() {
        for (int text : new int[] {-1, 16, Integer.MIN_VALUE, Integer.MAX_VALUE}) {
            CHECK.refuses(Make::letters, "look in text " + text, Check.RANGE, o -> o.look(text, 0, 0));
        }
        for (int at : new int[] {-1, 8, 9, Integer.MIN_VALUE, Integer.MAX_VALUE}) {
            CHECK.refuses(Make::letters, "look at " + at, Check.RANGE, o -> o.look(0, at, 0));
            CHECK.refuses(Make::letters, "look at " + at + " for 4", Check.RANGE, o -> o.look(0, at, 4));
        }
        CHECK.refuses(Make::letters, "look in an empty text", Check.RANGE, o -> o.look(1, 0, 3));
    }

    private static void wrongWhat() {
        for (int what : new int[] {-1, 4, 5, Integer.MIN_VALUE, Integer.MAX_VALUE}) {
            CHECK.refuses(Make::letters, "look for " + what, Check.ARGUMENT, o -> o.look(0, 0, what));
        }
    }

    private static void manyPieces() {
        PieceTexts x = Make.single(1024);
        for (int i = 0; i < 1024; i += 31) {
            int at = i;
            CHECK.due("piece at " + at, at, () -> x.look(0, at, 3));
        }
        CHECK.due("piece at 1023", 1023, () -> x.look(0, 1023, 3));
    }
}

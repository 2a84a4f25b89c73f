/** "An object is used for at most 512 calls after it has been made": the 512th is as good as the first. */
public final class CallsTest {
    private static final Check CHECK = new Check();

    public static void main(String[] args) {
        lastChanges();
        lastQuestions();
        lastIsRefused();
        onlyWrites();
        onlyPuts();
        onlyRefused();
        onlyOneQuestion();
        onlyOneChange();
        CHECK.end();
    }

    /** 511 calls; text 0 is abcdefgh then, cde with tag 5. */
    private static PieceTexts worn() {
        PieceTexts x = Make.letters();
        for (int i = 0; i < 254; i++) {
            int at = i % 7;
            x.cut(0, at, 1 + i % (8 - at), 1);
            x.paste(0, at, 1);
        }
        x.tag(0, 2, 3, -1, 5);
        return x;
    }

    private static void last(String what, int want, Check.Request request) {
        PieceTexts x = worn();
        CHECK.due(what + " as call 512", want, () -> request.answer(x));
    }

    private static void lastChanges() {
        last("write", 8, x -> x.write(Make.bytes("xy")));
        last("put", 9, x -> x.put(0, 8, 0, 1, 0));
        last("cut", 5, x -> x.cut(0, 2, 3, 1));
        last("paste", 8, x -> x.paste(1, 0, 0));
        last("copy", 3, x -> x.copy(0, 1, 6, 1));
        last("tag", 1, x -> x.tag(0, 0, 8, -1, 1));
        last("wipe", 8, x -> x.wipe(0));
    }

    private static void lastQuestions() {
        last("length", 8, x -> x.length(0));
        last("look", 5, x -> x.look(0, 4, 2));
        last("piece", 5, x -> x.piece(0, 2, 0));
        last("find", 7, x -> x.find(0, 1, 'h'));
        last("differ", 0, x -> x.differ(0, 1));
        last("count", 3, x -> x.count(2));
    }

    private static void lastIsRefused() {
        PieceTexts x = worn();
        CHECK.due("put as call 512", Check.RANGE, Check.answer(() -> x.put(0, 9, 0, 1, 0)));
        PieceTexts y = worn();
        CHECK.due("paste as call 512", Check.ARGUMENT, Check.answer(() -> y.paste(0, 0, 0)));
    }

    private static void onlyWrites() {
        PieceTexts x = new PieceTexts();
        for (int i = 0; i < 512; i++) {
            int first = 4 * i;
            CHECK.due("write " + i, first, () -> x.write(Make.bytes("abcd")));
        }
    }

    private static void onlyPuts() {
        PieceTexts x = Make.written("ab");
        for (int i = 1; i < 512; i++) {
            int length = i;
            CHECK.due("put " + i, length, () -> x.put(0, length / 2, 0, 1, length));
        }
    }

    private static void onlyRefused() {
        PieceTexts x = Make.letters();
        for (int i = 0; i < 509; i++) {
            int n = i;
            CHECK.due("cut " + i, Check.RANGE, Check.answer(() -> x.cut(0, n, 9, 1)));
        }
        CHECK.due("cut of all as call 512", 0, () -> x.cut(0, 0, 8, 1));
    }

    /** With the two calls that make it, 512 calls on an object, all with the same answer. */
    private static void always(String what, int want, Check.Request request) {
        PieceTexts x = Make.letters();
        for (int i = 3; i <= 512; i++) {
            CHECK.due(what + " as call " + i, want, () -> request.answer(x));
        }
    }

    private static void onlyOneQuestion() {
        always("length", 8, x -> x.length(0));
        always("look", 'd', x -> x.look(0, 3, 0));
        always("piece", 8, x -> x.piece(0, 0, 2));
        always("find", 6, x -> x.find(0, 2, 'g'));
        always("differ", 0, x -> x.differ(0, 1));
        always("count", 1, x -> x.count(3));
    }

    /** Changes that leave all as it is. */
    private static void onlyOneChange() {
        always("cut", 8, x -> x.cut(0, 4, 0, 1));
        always("paste", 8, x -> x.paste(0, 4, 1));
        always("copy", 0, x -> x.copy(0, 4, 0, 1));
        always("tag", 1, x -> x.tag(0, 2, 4, 3, 0));
        always("wipe", 0, x -> x.wipe(1));
    }
}

/** Promise 8: wipe. */
public final class WipeTest {
    private static final Check CHECK = new Check();

    public static void main(String[] args) {
        wipes();
        noSuchText();
        roomComesBack();
        bytesStay();
        CHECK.end();
    }

    private static void wipes() {
        PieceTexts x = Make.letters();
        x.tag(0, 2, 2, -1, 1);
        x.copy(0, 1, 4, 15);
        CHECK.due("wipe(0)", 8, () -> x.wipe(0));
        CHECK.due("length(0)", 0, () -> x.length(0));
        CHECK.due("wipe(0) again", 0, () -> x.wipe(0));
        CHECK.row(x, 15, "0:1+1#0 1:2+2#1 3:4+1#0");
        CHECK.due("count(1)", 4, () -> x.count(1));
        CHECK.due("count(2)", 3, () -> x.count(2));
        CHECK.due("count(0)", 8, () -> x.count(0));
        CHECK.due("wipe(15)", 4, () -> x.wipe(15));
        CHECK.due("copy into what was wiped", 0, () -> x.copy(15, 0, 0, 0));
        CHECK.due("put into what was wiped", 3, () -> x.put(0, 0, 5, 3, 2));
        CHECK.row(x, 0, "0:5+3#2");
    }

    private static void noSuchText() {
        for (int text : new int[] {-1, 16, Integer.MIN_VALUE, Integer.MAX_VALUE}) {
            CHECK.refuses(Make::letters, "wipe(" + text + ")", Check.RANGE, o -> o.wipe(text));
        }
    }

    private static void roomComesBack() {
        PieceTexts x = Make.single(512);
        for (int i = 0; i < 20; i++) {
            CHECK.due("copy " + i, 512, () -> x.copy(0, 0, 512, 1));
            CHECK.due("wipe " + i, 512, () -> x.wipe(1));
        }
        CHECK.due("count(2)", 512, () -> x.count(2));
        PieceTexts y = Make.full();
        CHECK.due("wipe(0)", 2048, () -> y.wipe(0));
        CHECK.due("copy", 32, () -> y.copy(1, 0, 2048, 0));
    }

    /** The buffer only grows, even if no text has any of it. */
    private static void bytesStay() {
        PieceTexts x = Make.buffer(2048);
        x.put(0, 0, 0, 2048, 3);
        CHECK.due("wipe(0)", 2048, () -> x.wipe(0));
        CHECK.due("count(0)", 2048, () -> x.count(0));
        CHECK.due("count(1)", 0, () -> x.count(1));
        CHECK.refusesFull(x, "write behind 2048", Check.STATE, () -> x.write(1L));
        CHECK.due("put of what was wiped", 2048, () -> x.put(0, 0, 0, 2048, 0));
        for (int at : new int[] {0, 1, 254, 255, 1024, 2047}) {
            CHECK.due("look(0, " + at + ", 0)", at % 255 + 1, () -> x.look(0, at, 0));
        }
    }
}

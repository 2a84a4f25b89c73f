/** Promise 12: find. */
public final class FindTest {
    private static final Check CHECK = new Check();

    public static void main(String[] args) {
        finds();
        highAndOddBytes();
        wrongPlaces();
        longText();
        CHECK.end();
    }

    private static void finds() {
        PieceTexts x = Make.letters();
        x.put(0, 3, 0, 2, 5);
        CHECK.due("find a", 0, () -> x.find(0, 0, 'a'));
        CHECK.due("find a from 1", 3, () -> x.find(0, 1, 'a'));
        CHECK.due("find a from 3", 3, () -> x.find(0, 3, 'a'));
        CHECK.due("find a from 4", -1, () -> x.find(0, 4, 'a'));
        CHECK.due("find b from 2", 4, () -> x.find(0, 2, 'b'));
        CHECK.due("find d from 1", 5, () -> x.find(0, 1, 'd'));
        CHECK.due("find h", 9, () -> x.find(0, 0, 'h'));
        CHECK.due("find h from 9", 9, () -> x.find(0, 9, 'h'));
        CHECK.due("find h from the end", -1, () -> x.find(0, 10, 'h'));
        CHECK.due("find z", -1, () -> x.find(0, 0, 'z'));
        CHECK.due("find in an empty text", -1, () -> x.find(1, 0, 'a'));
    }

    private static void highAndOddBytes() {
        PieceTexts x = new PieceTexts();
        x.write(0x61ff8001L);
        x.put(0, 0, 0, 4, 0);
        CHECK.due("find 255", 2, () -> x.find(0, 0, 255));
        CHECK.due("find 128", 1, () -> x.find(0, 0, 128));
        CHECK.due("find 1", 0, () -> x.find(0, 0, 1));
        for (int c : new int[] {0, -1, -128, 256 + 'a', 256, Integer.MIN_VALUE, Integer.MAX_VALUE}) {
            CHECK.due("find " + c, -1, () -> x.find(0, 0, c));
        }
    }

    private static void wrongPlaces() {
        for (int text : new int[] {-1, 16, Integer.MIN_VALUE, Integer.MAX_VALUE}) {
            CHECK.refuses(Make::letters, "find in text " + text, Check.RANGE, o -> o.find(text, 0, 'a'));
        }
        for (int at : new int[] {-1, 9, Integer.MIN_VALUE, Integer.MAX_VALUE}) {
            CHECK.refuses(Make::letters, "find from " + at, Check.RANGE, o -> o.find(0, at, 'a'));
        }
        CHECK.refuses(Make::letters, "find from 1 of an empty text", Check.RANGE, o -> o.find(1, 1, 'a'));
    }

    private static void longText() {
        PieceTexts x = Make.full();
        x.paste(0, 2048, 1);
        x.cut(0, 4095, 1, 2);
        x.wipe(2);
        x.write(Make.bytes("z"));
        x.put(0, 4095, 64, 1, 0);
        CHECK.due("find z", 4095, () -> x.find(0, 0, 'z'));
        CHECK.due("find h from 4080", 4087, () -> x.find(0, 4080, 'h'));
        CHECK.due("find h from 4088", -1, () -> x.find(0, 4088, 'h'));
    }
}

/** Promise 2: write. */
public final class WriteTest {
    private static final Check CHECK = new Check();

    public static void main(String[] args) {
        bytesComeLowestFirst();
        zeroEndsThem();
        lowestIsZero();
        highBytes();
        limit();
        CHECK.end();
    }

    private static void bytesComeLowestFirst() {
        PieceTexts x = new PieceTexts();
        CHECK.due("write of 3", 0, () -> x.write(0x636261L));
        CHECK.due("write of 8", 3, () -> x.write(0x6b6a696867666564L));
        CHECK.due("write of 1", 11, () -> x.write(0x6cL));
        CHECK.due("count(0)", 12, () -> x.count(0));
        x.put(0, 0, 0, 12, 0);
        for (int i = 0; i < 12; i++) {
            int at = i;
            CHECK.due("look(0, " + at + ", 0)", 'a' + at, () -> x.look(0, at, 0));
        }
        CHECK.due("characters", 12, () -> x.count(1));
    }

    private static void zeroEndsThem() {
        PieceTexts x = new PieceTexts();
        CHECK.due("write with a gap", 0, () -> x.write(0x6665640000636261L));
        CHECK.due("count(0)", 3, () -> x.count(0));
        CHECK.due("write with the highest one 0", 3, () -> x.write(0x0067666564636261L));
        CHECK.due("count(0)", 10, () -> x.count(0));
    }

    private static void lowestIsZero() {
        CHECK.refuses(Make::letters, "write(0)", Check.ARGUMENT, o -> o.write(0L));
        CHECK.refuses(Make::letters, "write(0x6100)", Check.ARGUMENT, o -> o.write(0x6100L));
        CHECK.refuses(Make::letters, "write(MIN_VALUE)", Check.ARGUMENT, o -> o.write(Long.MIN_VALUE));
    }

    private static void highBytes() {
        PieceTexts x = new PieceTexts();
        CHECK.due("write(-1)", 0, () -> x.write(-1L));
        CHECK.due("write(0x80ff01)", 8, () -> x.write(0x80ff01L));
        x.put(0, 0, 0, 11, 0);
        CHECK.due("look(0, 7, 0)", 255, () -> x.look(0, 7, 0));
        CHECK.due("look(0, 8, 0)", 1, () -> x.look(0, 8, 0));
        CHECK.due("look(0, 10, 0)", 128, () -> x.look(0, 10, 0));
    }

    private static void limit() {
        PieceTexts x = new PieceTexts();
        for (int i = 0; i < 255; i++) {
            int first = 8 * i;
            CHECK.due("write " + i, first, () -> x.write(Make.bytes("abcdefgh")));
        }
        x.write(Make.bytes("ab"));
        CHECK.refusesFull(x, "write of 7 behind 2042", Check.STATE, () -> x.write(Make.bytes("abcdefg")));
        CHECK.due("write of 6 behind 2042", 2042, () -> x.write(Make.bytes("uvwxyz")));
        CHECK.due("count(0)", 2048, () -> x.count(0));
        CHECK.refusesFull(x, "write of 1 behind 2048", Check.STATE, () -> x.write(1L));
        CHECK.refusesFull(x, "write(0) behind 2048", Check.ARGUMENT, () -> x.write(0L));
        CHECK.due("put of all", 2048, () -> x.put(0, 0, 0, 2048, 0));
        CHECK.due("the last byte", 'z', () -> x.look(0, 2047, 0));
    }
}

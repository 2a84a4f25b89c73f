/** "The BUFFER has at most 2048 bytes 1 .. 255": from the empty one to the full one. */
public final class BufferTest {
    private static final Check CHECK = new Check();
    private static final int MOST = 2048;
    private static final long EIGHT = 0x6867666564636261L;

    public static void main(String[] args) {
        emptyBuffer();
        everyByteAtEveryPlace();
        firstZeroByteEnds();
        lowestByteZero();
        lastOnesThatFit();
        firstOnesThatDoNot();
        bytesBehindTheZeroNeedNoRoom();
        fullBuffer();
        lowestByteZeroAndFull();
        textsStayAsTheyAre();
        firstAndLastByte();
        CHECK.end();
    }

    private static long lowest(int n) {
        return n == 8 ? EIGHT : EIGHT & (1L << 8 * n) - 1;
    }

    private static void emptyBuffer() {
        int[][] none = {{0, 1}, {0, 0}, {-1, 1}, {1, 1}, {0, -1}, {-1, 0}, {Integer.MAX_VALUE, 1}, {1, Integer.MAX_VALUE}};
        for (int[] w : none) {
            CHECK.refuses(PieceTexts::new, "put of " + w[1] + " from " + w[0] + " of nothing", Check.RANGE,
                    x -> x.put(0, 0, w[0], w[1], 0));
        }
        PieceTexts x = new PieceTexts();
        CHECK.due("count(0) of nothing", 0, () -> x.count(0));
        CHECK.due("the first write", 0, () -> x.write(1L));
        CHECK.due("count(0)", 1, () -> x.count(0));
        CHECK.due("put of the only byte", 1, () -> x.put(0, 0, 0, 1, 0));
    }

    private static void everyByteAtEveryPlace() {
        for (int b = 1; b <= 255; b++) {
            for (int i = 0; i < 8; i++) {
                int at = i;
                long s = EIGHT & ~(255L << 8 * i) | (long) b << 8 * i;
                PieceTexts x = new PieceTexts();
                CHECK.due("write(" + s + ")", 0, () -> x.write(s));
                CHECK.due("count(0) after write(" + s + ")", 8, () -> x.count(0));
                x.put(0, 0, 0, 8, 0);
                CHECK.due("byte " + i + " of " + s, b, () -> x.look(0, at, 0));
                CHECK.due("its neighbour", 'a' + (at + 1) % 8, () -> x.look(0, (at + 1) % 8, 0));
            }
        }
    }

    private static void firstZeroByteEnds() {
        for (int n = 1; n <= 8; n++) {
            int due = n;
            PieceTexts x = Make.written("q");
            long gap = n == 8 ? EIGHT : EIGHT & ~(255L << 8 * n);
            CHECK.due("write(" + gap + ")", 1, () -> x.write(gap));
            CHECK.due("count(0) after write(" + gap + ")", 1 + due, () -> x.count(0));
            CHECK.due("write(" + lowest(n) + ")", 1 + due, () -> x.write(lowest(due)));
            CHECK.due("count(0) after write(" + lowest(n) + ")", 1 + 2 * due, () -> x.count(0));
            x.put(0, 0, 1, 2 * n, 0);
            CHECK.due("the last byte before the zero", 'a' + due - 1, () -> x.look(0, due - 1, 0));
            CHECK.due("the byte behind it", 'a', () -> x.look(0, due, 0));
        }
    }

    private static void lowestByteZero() {
        for (int i = 1; i < 8; i++) {
            long s = 255L << 8 * i;
            CHECK.refuses(Make::letters, "write(" + s + ")", Check.ARGUMENT, x -> x.write(s));
        }
        CHECK.refuses(Make::letters, "write of 0 and seven others", Check.ARGUMENT, x -> x.write(EIGHT & ~255L));
        CHECK.refuses(Make::letters, "write(0)", Check.ARGUMENT, x -> x.write(0L));
        CHECK.refuses(PieceTexts::new, "write(0) into nothing", Check.ARGUMENT, x -> x.write(0L));
    }

    private static void lastOnesThatFit() {
        for (int n = 1; n <= 8; n++) {
            int more = n;
            PieceTexts x = Make.buffer(MOST - n);
            CHECK.due("write of " + n + " that fill it", MOST - n, () -> x.write(lowest(more)));
            CHECK.due("count(0)", MOST, () -> x.count(0));
            CHECK.due("put of all", MOST, () -> x.put(0, 0, 0, MOST, 0));
            CHECK.due("the last byte", 'a' + more - 1, () -> x.look(0, MOST - 1, 0));
            CHECK.due("the first of them", 'a', () -> x.look(0, MOST - more, 0));
        }
    }

    private static void firstOnesThatDoNot() {
        for (int n = 1; n <= 8; n++) {
            int more = n;
            refusedWrite(MOST + 1 - n, "write of " + n + ", one too many", Check.STATE, lowest(more));
        }
        refusedWrite(MOST - 1, "write of 8 with room for one", Check.STATE, -1L);
    }

    /** Nothing is written, not even the bytes that there is room for, and the next write goes where it would have. */
    private static void refusedWrite(int filled, String what, String want, long s) {
        for (int from = 0; from < filled; from += 200) {
            PieceTexts x = Make.buffer(filled);
            CHECK.due(what, want, Check.answer(() -> x.write(s)));
            CHECK.due("count(0) after " + what, filled, () -> x.count(0));
            x.put(3, 0, 0, filled, 0);
            for (int i = from; i < filled && i < from + 200; i++) {
                int at = i;
                CHECK.due("byte " + at + " after " + what, at % 255 + 1, () -> x.look(3, at, 0));
            }
        }
        PieceTexts x = Make.buffer(filled);
        Check.answer(() -> x.write(s));
        CHECK.due("byte " + filled + " after " + what, Check.RANGE, Check.answer(() -> x.put(0, 0, filled, 1, 0)));
        if (filled < MOST) {
            CHECK.due("write of 1 after " + what, filled, () -> x.write(9L));
        }
    }

    private static void bytesBehindTheZeroNeedNoRoom() {
        PieceTexts x = Make.buffer(MOST - 1);
        CHECK.due("write of 1 and more behind a zero", MOST - 1, () -> x.write(0x6665646362610041L));
        CHECK.due("count(0)", MOST, () -> x.count(0));
    }

    private static void fullBuffer() {
        for (int n = 1; n <= 8; n++) {
            refusedWrite(MOST, "write of " + n + " behind all", Check.STATE, lowest(n));
        }
        refusedWrite(MOST, "write of 1 and more behind a zero, behind all", Check.STATE, 0x6665646362610041L);
    }

    private static void lowestByteZeroAndFull() {
        refusedWrite(MOST, "write(0) behind all", Check.ARGUMENT, 0L);
        refusedWrite(MOST, "write of 0 and others behind all", Check.ARGUMENT, EIGHT & ~255L);
        refusedWrite(MOST - 1, "write of 0 and others with room for one", Check.ARGUMENT, EIGHT & ~255L);
    }

    private static void textsStayAsTheyAre() {
        PieceTexts x = Make.letters();
        x.write(EIGHT);
        CHECK.row(x, 0, "0:0+8#0");
        CHECK.due("count(1)", 8, () -> x.count(1));
        CHECK.due("count(2)", 1, () -> x.count(2));
        PieceTexts y = Make.oneFull();
        CHECK.due("write with 4096 characters", 64, () -> y.write(EIGHT));
        PieceTexts z = Make.single(1024);
        CHECK.due("write with 1024 pieces", 4, () -> z.write(EIGHT));
        CHECK.due("count(2)", 1024, () -> z.count(2));
    }

    private static PieceTexts allPut() {
        PieceTexts x = Make.buffer(MOST);
        x.put(1, 0, 0, MOST, 7);
        return x;
    }

    private static void firstAndLastByte() {
        PieceTexts x = allPut();
        CHECK.due("length(1)", MOST, () -> x.length(1));
        CHECK.due("its only piece", MOST, () -> x.piece(1, 0, 2));
        CHECK.due("put of the last byte", 1, () -> x.put(0, 0, MOST - 1, 1, 0));
        CHECK.due("its source", MOST - 1, () -> x.look(0, 0, 1));
        CHECK.due("itself", (MOST - 1) % 255 + 1, () -> x.look(0, 0, 0));
        CHECK.due("put of the first byte", 2, () -> x.put(0, 1, 0, 1, 0));
        CHECK.due("its source", 0, () -> x.look(0, 1, 1));
        CHECK.due("count(2)", 3, () -> x.count(2));
        int[][] none = {{MOST, 1}, {MOST - 1, 2}, {0, MOST + 1}, {1, MOST}, {-1, MOST}, {-1, 1}, {MOST, 0},
            {Integer.MAX_VALUE, Integer.MAX_VALUE}, {MOST - 1, Integer.MAX_VALUE}, {Integer.MAX_VALUE, MOST}};
        for (int[] w : none) {
            CHECK.refusesWhole(BufferTest::allPut, "put of " + w[1] + " from " + w[0], Check.RANGE,
                    o -> o.put(2, 0, w[0], w[1], 0));
        }
    }
}

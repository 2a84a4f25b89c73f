/**
 * "Of several exceptions that apply the first one listed is thrown; what
 * throws changes nothing": every two, and all three, that can apply at once.
 */
public final class OrderTest {
    private static final Check CHECK = new Check();
    private static final int[] NO_TEXTS = {-1, 16, Integer.MIN_VALUE, Integer.MAX_VALUE};
    private static final int[] NO_WHATS = {-1, 4, 5, Integer.MIN_VALUE, Integer.MAX_VALUE};

    public static void main(String[] args) {
        writeArgumentBeforeState();
        putRangeBeforeState();
        cutRangeBeforeArgument();
        cutRangeBeforeState();
        cutArgumentBeforeState();
        pasteRangeBeforeArgument();
        pasteArgumentBeforeState();
        copyRangeBeforeArgument();
        copyRangeBeforeState();
        copyArgumentBeforeState();
        tagRangeBeforeState();
        lookRangeBeforeArgument();
        pieceRangeBeforeArgument();
        CHECK.end();
    }

    /** 1024 pieces; text 5 is xyzw in one, and so is text 6. */
    private static PieceTexts crowded() {
        PieceTexts x = Make.pieces(1022);
        x.put(5, 0, 0, 4, 0);
        x.put(6, 0, 0, 4, 1);
        return x;
    }

    private static void whole(Check.Maker maker, String what, String want, Check.Request request) {
        CHECK.refusesWhole(maker, what, want, request);
    }

    private static void writeArgumentBeforeState() {
        Check.Maker full = () -> Make.buffer(2048);
        whole(full, "write(0) behind all", Check.ARGUMENT, x -> x.write(0L));
        whole(full, "write(0xff00) behind all", Check.ARGUMENT, x -> x.write(0xff00L));
        whole(full, "write of seven behind a 0, behind all", Check.ARGUMENT, x -> x.write(-256L));
        whole(full, "write(1) behind all", Check.STATE, x -> x.write(1L));
    }

    private static void putRangeBeforeState() {
        for (Check.Maker full : new Check.Maker[] {Make::full, Make::oneFull, () -> Make.single(1024)}) {
            for (int none : NO_TEXTS) {
                whole(full, "put into text " + none + " behind all", Check.RANGE, x -> x.put(none, 0, 0, 1, 0));
            }
            whole(full, "put at no place behind all", Check.RANGE, x -> x.put(9, 1, 0, 1, 0));
            whole(full, "put before place -1 behind all", Check.RANGE, x -> x.put(9, -1, 0, 1, 0));
            whole(full, "put of nothing behind all", Check.RANGE, x -> x.put(9, 0, 0, 0, 0));
            whole(full, "put of -1 behind all", Check.RANGE, x -> x.put(9, 0, 0, -1, 0));
            whole(full, "put of too many bytes", Check.RANGE, x -> x.put(9, 0, 0, 65, 0));
            whole(full, "put of all bytes that an int can tell", Check.RANGE,
                    x -> x.put(9, 0, 0, Integer.MAX_VALUE, 0));
            whole(full, "put from byte -1 behind all", Check.RANGE, x -> x.put(9, 0, -1, 1, 0));
            whole(full, "put from byte 64 behind all", Check.RANGE, x -> x.put(9, 0, 64, 1, 0));
            whole(full, "put behind all", Check.STATE, x -> x.put(9, 0, 0, 1, 0));
        }
    }

    private static void cutRangeBeforeArgument() {
        for (int none : NO_TEXTS) {
            CHECK.refuses(Make::twoTexts, "cut from text " + none + " into itself", Check.RANGE,
                    x -> x.cut(none, 0, 0, none));
            CHECK.refuses(Make::twoTexts, "cut from text " + none + " into characters", Check.RANGE,
                    x -> x.cut(none, 0, 0, 1));
        }
        int[][] ranges = {{0, 9}, {-1, 1}, {0, -1}, {9, 0}, {8, 1}, {Integer.MAX_VALUE, 1}};
        for (int[] r : ranges) {
            String range = "cut of " + r[0] + ", " + r[1];
            CHECK.refuses(Make::twoTexts, range + " into itself", Check.RANGE, x -> x.cut(0, r[0], r[1], 0));
            CHECK.refuses(Make::twoTexts, range + " into characters", Check.RANGE, x -> x.cut(0, r[0], r[1], 1));
        }
        CHECK.refuses(Make::twoTexts, "cut into itself", Check.ARGUMENT, x -> x.cut(0, 0, 8, 0));
        CHECK.refuses(Make::twoTexts, "cut into characters", Check.ARGUMENT, x -> x.cut(0, 0, 8, 1));
    }

    private static void cutRangeBeforeState() {
        for (int none : NO_TEXTS) {
            whole(OrderTest::crowded, "cut of a middle into text " + none, Check.RANGE, x -> x.cut(5, 1, 2, none));
        }
        whole(OrderTest::crowded, "cut from a middle on, too far", Check.RANGE, x -> x.cut(5, 1, 4, 7));
        whole(OrderTest::crowded, "cut from a middle on, too far, into itself", Check.RANGE, x -> x.cut(5, 1, 4, 5));
        whole(OrderTest::crowded, "cut of a middle", Check.STATE, x -> x.cut(5, 1, 2, 7));
    }

    private static void cutArgumentBeforeState() {
        whole(OrderTest::crowded, "cut of a middle into itself", Check.ARGUMENT, x -> x.cut(5, 1, 2, 5));
        whole(OrderTest::crowded, "cut of a middle into characters", Check.ARGUMENT, x -> x.cut(5, 1, 2, 6));
        whole(OrderTest::crowded, "cut of an end into characters", Check.ARGUMENT, x -> x.cut(5, 2, 2, 0));
    }

    private static void pasteRangeBeforeArgument() {
        for (int none : NO_TEXTS) {
            CHECK.refuses(Make::twoTexts, "paste of text " + none + " into itself", Check.RANGE,
                    x -> x.paste(none, 0, none));
        }
        for (int at : new int[] {-1, 9, Integer.MIN_VALUE, Integer.MAX_VALUE}) {
            CHECK.refuses(Make::twoTexts, "paste into itself at " + at, Check.RANGE, x -> x.paste(0, at, 0));
        }
        CHECK.refuses(Make::twoTexts, "paste of nothing into itself at 1", Check.RANGE, x -> x.paste(2, 1, 2));
        for (int i = 0; i <= 8; i++) {
            int at = i;
            CHECK.refuses(Make::twoTexts, "paste into itself at " + at, Check.ARGUMENT, x -> x.paste(0, at, 0));
        }
        whole(OrderTest::crowded, "paste of no text into a piece", Check.RANGE, x -> x.paste(5, 2, 16));
    }

    private static void pasteArgumentBeforeState() {
        whole(OrderTest::crowded, "paste into itself, inside", Check.ARGUMENT, x -> x.paste(5, 2, 5));
        whole(OrderTest::crowded, "paste of another, inside", Check.STATE, x -> x.paste(5, 2, 6));
        whole(Make::oneFull, "paste of all into itself", Check.ARGUMENT, x -> x.paste(0, 0, 0));
    }

    private static void copyRangeBeforeArgument() {
        for (int none : NO_TEXTS) {
            CHECK.refuses(Make::twoTexts, "copy from text " + none + " into itself", Check.RANGE,
                    x -> x.copy(none, 0, 0, none));
            CHECK.refuses(Make::twoTexts, "copy from text " + none + " into characters", Check.RANGE,
                    x -> x.copy(none, 0, 0, 1));
        }
        int[][] ranges = {{0, 9}, {-1, 1}, {0, -1}, {9, 0}, {8, 1}, {Integer.MAX_VALUE, 1}};
        for (int[] r : ranges) {
            String range = "copy of " + r[0] + ", " + r[1];
            CHECK.refuses(Make::twoTexts, range + " into itself", Check.RANGE, x -> x.copy(0, r[0], r[1], 0));
            CHECK.refuses(Make::twoTexts, range + " into characters", Check.RANGE, x -> x.copy(0, r[0], r[1], 1));
        }
        CHECK.refuses(Make::twoTexts, "copy into itself", Check.ARGUMENT, x -> x.copy(0, 0, 8, 0));
        CHECK.refuses(Make::twoTexts, "copy into characters", Check.ARGUMENT, x -> x.copy(0, 0, 8, 1));
    }

    private static void copyRangeBeforeState() {
        for (int none : NO_TEXTS) {
            whole(OrderTest::crowded, "copy into text " + none + " behind 1024", Check.RANGE, x -> x.copy(5, 0, 4, none));
            whole(Make::oneFull, "copy into text " + none + " behind 4096", Check.RANGE, x -> x.copy(0, 0, 4, none));
        }
        whole(OrderTest::crowded, "copy of no range behind 1024", Check.RANGE, x -> x.copy(5, 1, 4, 7));
        whole(Make::oneFull, "copy of no range behind 4096", Check.RANGE, x -> x.copy(0, 1, 4096, 7));
        whole(Make::oneFull, "copy of no range into itself behind 4096", Check.RANGE, x -> x.copy(0, 1, 4096, 0));
        whole(OrderTest::crowded, "copy behind 1024", Check.STATE, x -> x.copy(5, 1, 1, 7));
        whole(Make::oneFull, "copy behind 4096", Check.STATE, x -> x.copy(0, 1, 1, 7));
    }

    private static void copyArgumentBeforeState() {
        whole(OrderTest::crowded, "copy into itself behind 1024", Check.ARGUMENT, x -> x.copy(5, 0, 4, 5));
        whole(OrderTest::crowded, "copy into characters behind 1024", Check.ARGUMENT, x -> x.copy(5, 0, 4, 6));
        whole(Make::oneFull, "copy into itself behind 4096", Check.ARGUMENT, x -> x.copy(0, 0, 4, 0));
        whole(Make::full, "copy into characters behind 4096", Check.ARGUMENT, x -> x.copy(0, 0, 4, 1));
    }

    private static void tagRangeBeforeState() {
        for (int none : NO_TEXTS) {
            whole(OrderTest::crowded, "tag in text " + none, Check.RANGE, x -> x.tag(none, 0, 1, -1, 9));
        }
        int[][] ranges = {{1, 4}, {-1, 2}, {1, -1}, {5, 0}, {4, 1}, {1, Integer.MAX_VALUE}};
        for (int[] r : ranges) {
            whole(OrderTest::crowded, "tag of " + r[0] + ", " + r[1], Check.RANGE, x -> x.tag(5, r[0], r[1], -1, 9));
        }
        whole(OrderTest::crowded, "tag of a middle", Check.STATE, x -> x.tag(5, 1, 2, -1, 9));
    }

    private static void lookRangeBeforeArgument() {
        for (int what : NO_WHATS) {
            for (int none : NO_TEXTS) {
                CHECK.refuses(Make::twoTexts, "look in text " + none + " for " + what, Check.RANGE,
                        x -> x.look(none, 0, what));
            }
            for (int at : new int[] {-1, 8, 9, Integer.MIN_VALUE, Integer.MAX_VALUE}) {
                CHECK.refuses(Make::twoTexts, "look at " + at + " for " + what, Check.RANGE, x -> x.look(0, at, what));
            }
            CHECK.refuses(Make::twoTexts, "look in nothing for " + what, Check.RANGE, x -> x.look(2, 0, what));
            CHECK.refuses(Make::twoTexts, "look at the first for " + what, Check.ARGUMENT, x -> x.look(0, 0, what));
            CHECK.refuses(Make::twoTexts, "look at the last for " + what, Check.ARGUMENT, x -> x.look(0, 7, what));
        }
    }

    private static void pieceRangeBeforeArgument() {
        for (int what : NO_WHATS) {
            for (int none : NO_TEXTS) {
                CHECK.refuses(Make::twoTexts, "piece of text " + none + " for " + what, Check.RANGE,
                        x -> x.piece(none, 0, what));
            }
            for (int k : new int[] {-1, 1, 2, Integer.MIN_VALUE, Integer.MAX_VALUE}) {
                CHECK.refuses(Make::twoTexts, "piece " + k + " for " + what, Check.RANGE, x -> x.piece(0, k, what));
            }
            CHECK.refuses(Make::twoTexts, "piece of nothing for " + what, Check.RANGE, x -> x.piece(2, 0, what));
            CHECK.refuses(Make::twoTexts, "piece 0 for " + what, Check.ARGUMENT, x -> x.piece(0, 0, what));
        }
    }
}

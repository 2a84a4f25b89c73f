/**
 * "All texts together have at most 1024 pieces", and IllegalStateException is
 * for what "would be too many ... when all is done": each kind of change is
 * made where it just fits, and where it makes one piece too many.
 */
public final class PiecesLimitTest {
    private static final Check CHECK = new Check();
    private static final int MOST = 1024;

    /** Puts what a change needs into texts 5 and 6; the buffer is xyzw. */
    private interface Scene {
        void set(PieceTexts x);
    }

    public static void main(String[] args) {
        putsApart();
        putsThatMeld();
        cuts();
        cutsWhoseRestMelds();
        pastes();
        pastesThatMeld();
        copies();
        tags();
        tagsThatMeld();
        changesThatAddNothing();
        sixteenTexts();
        CHECK.end();
    }

    /** Text 0 has so many pieces that there are this many with those of the scene. */
    private static PieceTexts made(Scene scene, int pieces) {
        PieceTexts alone = Make.written("xyzw");
        scene.set(alone);
        PieceTexts x = Make.pieces(pieces - alone.count(2));
        scene.set(x);
        return x;
    }

    /** The change answers this and makes so many pieces more. */
    private static void change(String what, Scene scene, int answer, int more, Check.Request request) {
        int last = MOST - Math.max(0, more);
        PieceTexts x = made(scene, last);
        CHECK.due("count(2) before " + what, last, () -> x.count(2));
        CHECK.due(what, answer, () -> request.answer(x));
        CHECK.due("count(2) after " + what, last + more, () -> x.count(2));
        for (int room = more - 1; room >= 0; room--) {
            int pieces = MOST - room;
            CHECK.refusesWhole(() -> made(scene, pieces), what + " with room for " + room, Check.STATE, request);
        }
    }

    private static Scene empty() {
        return x -> { };
    }

    /** Text 5 is the one piece xyzw. */
    private static Scene word() {
        return x -> x.put(5, 0, 0, 4, 0);
    }

    /** Text 5 is xy and w, of these tags. */
    private static Scene gap(int left, int right) {
        return x -> {
            x.put(5, 0, 0, 2, left);
            x.put(5, 2, 3, 1, right);
        };
    }

    /** Text 5 is xy and zw, of these tags. */
    private static Scene halves(int left, int right) {
        return x -> {
            x.put(5, 0, 0, 2, left);
            x.put(5, 2, 2, 2, right);
        };
    }

    /** Text 5 is xy, xy with tag 7, and zw. */
    private static Scene between(int right) {
        return x -> {
            x.put(5, 0, 0, 2, 0);
            x.put(5, 2, 0, 2, 7);
            x.put(5, 4, 2, 2, right);
        };
    }

    /** Text 5 is xyzw, and text 6 is these two bytes, with this tag. */
    private static Scene wordAndTwo(int first, int second, int tag) {
        return wordAndTwo(first, tag, second, tag);
    }

    private static Scene wordAndTwo(int first, int firstTag, int second, int secondTag) {
        return x -> {
            x.put(5, 0, 0, 4, 0);
            x.put(6, 0, first, 1, firstTag);
            x.put(6, 1, second, 1, secondTag);
        };
    }

    /** Text 5 is xyzw, each with a tag of its own. */
    private static Scene letters(int... tags) {
        return x -> {
            for (int i = 0; i < 4; i++) {
                x.put(5, i, i, 1, tags[i]);
            }
        };
    }

    private static void putsApart() {
        change("put into nothing", empty(), 4, 1, x -> x.put(5, 0, 0, 4, 0));
        change("put into nothing, text 15", empty(), 1, 1, x -> x.put(15, 0, 3, 1, 0));
        change("put before all", word(), 5, 1, x -> x.put(5, 0, 0, 1, 0));
        change("put at the end", word(), 5, 1, x -> x.put(5, 4, 3, 1, 0));
        change("put between pieces", gap(0, 0), 4, 1, x -> x.put(5, 2, 0, 1, 0));
        change("put into a piece", word(), 5, 2, x -> x.put(5, 2, 0, 1, 0));
        change("put into a piece with its sources, other tag", word(), 5, 2, x -> x.put(5, 2, 2, 1, 1));
        change("put behind the last byte, other tag", gap(0, 9), 4, 1, x -> x.put(5, 2, 2, 1, 1));
        change("put before the next byte, other tag", gap(9, 0), 4, 1, x -> x.put(5, 2, 2, 1, 1));
    }

    private static void putsThatMeld() {
        change("put into a piece, with its left part", word(), 5, 1, x -> x.put(5, 2, 2, 1, 0));
        change("put into a piece, with its right part", word(), 5, 1, x -> x.put(5, 2, 1, 1, 0));
        change("put with the left piece", gap(0, 9), 4, 0, x -> x.put(5, 2, 2, 1, 0));
        change("put with the right piece", gap(9, 0), 4, 0, x -> x.put(5, 2, 2, 1, 0));
        change("put with both", gap(0, 0), 4, -1, x -> x.put(5, 2, 2, 1, 0));
        change("put with the left one alone", letters(1, 0, 7, 8), 5, 0, x -> x.put(5, 2, 2, 1, 0));
        change("put with the right one alone", letters(7, 8, 0, 1), 5, 0, x -> x.put(5, 2, 1, 1, 0));
        change("put with the tag of the left one's neighbour", letters(0, 1, 7, 8), 5, 1, x -> x.put(5, 2, 2, 1, 0));
        change("put with the tag of the right one's neighbour", letters(7, 8, 1, 0), 5, 1, x -> x.put(5, 2, 1, 1, 0));
        change("put at the end, with the last piece", x -> x.put(5, 0, 0, 2, 0), 4, 0, x -> x.put(5, 2, 2, 2, 0));
        change("put before all, with the first piece", x -> x.put(5, 0, 2, 2, 0), 4, 0, x -> x.put(5, 0, 0, 2, 0));
    }

    private static void cuts() {
        change("cut of a piece's beginning", word(), 2, 1, x -> x.cut(5, 0, 2, 6));
        change("cut of a piece's end", word(), 2, 1, x -> x.cut(5, 2, 2, 6));
        change("cut of a piece's middle", word(), 2, 2, x -> x.cut(5, 1, 2, 6));
        change("cut of the first piece's beginning", gap(0, 0), 2, 1, x -> x.cut(5, 0, 1, 6));
        change("cut of an end and a beginning", halves(1, 2), 2, 2, x -> x.cut(5, 1, 2, 6));
        change("cut of an end and a whole", halves(1, 2), 1, 1, x -> x.cut(5, 1, 3, 6));
        change("cut of one piece", halves(1, 2), 2, 0, x -> x.cut(5, 2, 2, 6));
        change("cut of all", halves(1, 2), 0, 0, x -> x.cut(5, 0, 4, 6));
    }

    private static void cutsWhoseRestMelds() {
        change("cut of what lies between", between(0), 4, -1, x -> x.cut(5, 2, 2, 6));
        change("cut of what lies between other tags", between(1), 4, 0, x -> x.cut(5, 2, 2, 6));
        change("cut of an end, the rest melds", x -> {
            x.put(5, 0, 0, 3, 0);
            x.put(5, 3, 2, 2, 0);
        }, 4, 0, x -> x.cut(5, 2, 1, 6));
        change("cut of a beginning, the rest melds", x -> {
            x.put(5, 0, 0, 2, 0);
            x.put(5, 2, 1, 3, 0);
        }, 4, 0, x -> x.cut(5, 2, 1, 6));
        change("cut of parts, the rest melds", x -> {
            x.put(5, 0, 0, 3, 0);
            x.put(5, 3, 1, 3, 0);
        }, 4, 1, x -> x.cut(5, 2, 2, 6));
    }

    private static void pastes() {
        change("paste into nothing", wordAndTwo(0, 0, 3), 2, 0, x -> x.paste(7, 0, 6));
        change("paste before all", wordAndTwo(0, 0, 3), 6, 0, x -> x.paste(5, 0, 6));
        change("paste at the end", wordAndTwo(0, 0, 3), 6, 0, x -> x.paste(5, 4, 6));
        change("paste into a piece", wordAndTwo(0, 0, 0), 6, 1, x -> x.paste(5, 2, 6));
        change("paste of other tags into a piece", wordAndTwo(2, 1, 3), 6, 1, x -> x.paste(5, 2, 6));
        change("paste behind a piece's first one", wordAndTwo(3, 3, 0), 6, 1, x -> x.paste(5, 1, 6));
        change("paste before a piece's last one", wordAndTwo(0, 0, 0), 6, 1, x -> x.paste(5, 3, 6));
    }

    private static void pastesThatMeld() {
        change("paste into a piece, with its left part", wordAndTwo(2, 0, 0), 6, 0, x -> x.paste(5, 2, 6));
        change("paste into a piece, with its right part", wordAndTwo(0, 1, 0), 6, 0, x -> x.paste(5, 2, 6));
        change("paste into a piece, with both parts", wordAndTwo(2, 1, 0), 6, -1, x -> x.paste(5, 2, 6));
        change("paste whose first one alone melds", wordAndTwo(2, 0, 1, 5), 6, 0, x -> x.paste(5, 2, 6));
        change("paste whose last one alone melds", wordAndTwo(2, 5, 1, 0), 6, 0, x -> x.paste(5, 2, 6));
        change("paste whose last one has the first one's tag", wordAndTwo(0, 0, 1, 5), 6, 1, x -> x.paste(5, 2, 6));
        change("paste whose first one has the last one's tag", wordAndTwo(2, 5, 0, 0), 6, 1, x -> x.paste(5, 2, 6));
        change("paste of what is missing", x -> {
            gap(0, 0).set(x);
            x.put(6, 0, 2, 1, 0);
        }, 4, -2, x -> x.paste(5, 2, 6));
        change("paste of what is missing, other tag", x -> {
            gap(0, 0).set(x);
            x.put(6, 0, 2, 1, 1);
        }, 4, 0, x -> x.paste(5, 2, 6));
    }

    private static void copies() {
        change("copy of a piece", word(), 1, 1, x -> x.copy(5, 0, 4, 6));
        change("copy of a piece's middle", word(), 1, 1, x -> x.copy(5, 1, 2, 6));
        change("copy of two pieces", halves(1, 2), 2, 2, x -> x.copy(5, 0, 4, 6));
        change("copy of an end and a beginning", halves(1, 2), 2, 2, x -> x.copy(5, 1, 2, 6));
        change("copy of three pieces", between(0), 3, 3, x -> x.copy(5, 1, 4, 6));
        change("copy of many", empty(), 100, 100, x -> x.copy(0, 17, 100, 6));
        CHECK.refusesWhole(() -> Make.pieces(513), "copy of 512 behind 513", Check.STATE, x -> x.copy(0, 0, 512, 6));
        PieceTexts x = Make.pieces(512);
        CHECK.due("copy of 512 behind 512", 512, () -> x.copy(0, 0, 512, 6));
        CHECK.due("count(2)", MOST, () -> x.count(2));
    }

    private static void tags() {
        change("tag of a piece's beginning", word(), 2, 1, x -> x.tag(5, 0, 2, -1, 1));
        change("tag of a piece's end", word(), 2, 1, x -> x.tag(5, 2, 2, -1, 1));
        change("tag of a piece's middle", word(), 3, 2, x -> x.tag(5, 1, 2, -1, 1));
        change("tag of a piece", word(), 1, 0, x -> x.tag(5, 0, 4, -1, 1));
        change("tag of a middle to what it is", word(), 1, 0, x -> x.tag(5, 1, 2, -1, 0));
        change("tag of no bits of a middle", word(), 1, 0, x -> x.tag(5, 1, 2, 0, -1));
        change("tag of parts that stay apart", halves(1, 2), 4, 2, x -> x.tag(5, 1, 2, 4, 4));
        change("tag of an end and a whole", halves(1, 2), 3, 1, x -> x.tag(5, 1, 3, 4, 4));
    }

    private static void tagsThatMeld() {
        change("tag of parts that meld", halves(1, 2), 3, 1, x -> x.tag(5, 1, 2, -1, 4));
        change("tag of a beginning like the left piece", halves(1, 2), 2, 0, x -> x.tag(5, 2, 1, -1, 1));
        change("tag of an end like the right piece", halves(1, 2), 2, 0, x -> x.tag(5, 1, 1, -1, 2));
        change("tag of a piece like the left one", halves(1, 2), 1, -1, x -> x.tag(5, 2, 2, 3, 1));
        change("tag of a piece like the right one", halves(1, 2), 1, -1, x -> x.tag(5, 0, 2, 3, 2));
        change("tag of all alike", halves(1, 2), 1, -1, x -> x.tag(5, 0, 4, -1, 9));
        change("tag of each one alike", letters(1, 2, 3, 4), 1, -3, x -> x.tag(5, 0, 4, -1, 9));
        change("tag of all but the first alike", letters(1, 2, 3, 4), 2, -2, x -> x.tag(5, 1, 3, -1, 9));
        change("tag of all but the last alike", letters(1, 2, 3, 4), 2, -2, x -> x.tag(5, 0, 3, -1, 9));
        change("tag of one as on both sides", letters(1, 2, 1, 4), 2, -2, x -> x.tag(5, 1, 1, -1, 1));
        change("tag of two as on both sides", letters(1, 2, 3, 1), 1, -3, x -> x.tag(5, 1, 2, -1, 1));
        change("tag of bits that leave others apart", letters(1, 2, 3, 4), 4, 0, x -> x.tag(5, 0, 4, 8, 8));
        change("tag of bits that let some meld", letters(1, 2, 3, 4), 3, -1, x -> x.tag(5, 0, 4, 1, 0));
        change("tag that parts two and melds two", x -> {
            x.put(5, 0, 0, 2, 1);
            x.put(5, 2, 2, 1, 2);
            x.put(5, 3, 3, 1, 3);
            x.put(5, 4, 0, 2, 4);
        }, 4, 0, x -> x.tag(5, 1, 4, -1, 9));
        change("tag of an end and a whole that meld", halves(1, 2), 2, 0, x -> x.tag(5, 1, 3, -1, 4));
    }

    /** What has no characters makes no piece, even with all 1024 there. */
    private static void changesThatAddNothing() {
        for (int i = 0; i <= 4; i++) {
            int at = i;
            change("cut of nothing at " + at, word(), 4, 0, x -> x.cut(5, at, 0, 6));
            change("copy of nothing at " + at, word(), 0, 0, x -> x.copy(5, at, 0, 6));
            change("tag of nothing at " + at, word(), 1, 0, x -> x.tag(5, at, 0, -1, 1));
            change("paste of nothing at " + at, word(), 4, 0, x -> x.paste(5, at, 6));
        }
        change("wipe of nothing", word(), 0, 0, x -> x.wipe(6));
        change("wipe", word(), 4, -1, x -> x.wipe(5));
        change("write", word(), 4, 0, x -> x.write(1L));
    }

    /** The pieces of all sixteen texts count, the last one's too. */
    private static void sixteenTexts() {
        for (int i = 0; i < 16; i++) {
            int t = i;
            CHECK.refusesWhole(Make::sixteenCrowded, "put into text " + t, Check.STATE, x -> x.put(t, 3, 3, 1, 0));
            PieceTexts x = Make.sixteenCrowded();
            CHECK.due("put into text " + t + " that melds", 65, () -> x.put(t, 3, 1, 1, 0));
            CHECK.due("count(2)", MOST, () -> x.count(2));
            CHECK.refusesFull(x, "put into text " + t + " inside", Check.STATE, () -> x.put(t, 3, 1, 1, 0));
            CHECK.due("wipe of text " + t, 65, () -> x.wipe(t));
            CHECK.due("count(2)", 960, () -> x.count(2));
            CHECK.due("copy into text " + t, 64, () -> x.copy(15 - t, 0, 64, t));
            CHECK.due("count(2)", MOST, () -> x.count(2));
        }
    }
}

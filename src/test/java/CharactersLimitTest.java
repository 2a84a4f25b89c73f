/** "All together have at most 4096 characters": put and copy add some, the other calls never do. */
public final class CharactersLimitTest {
    private static final Check CHECK = new Check();
    private static final int MOST = 4096;

    public static void main(String[] args) {
        putsThatFit();
        putsOneTooMany();
        copiesThatFit();
        copiesOneTooMany();
        allBytesTwice();
        changesThatAddNone();
        roomThatComesBack();
        sixteenTexts();
        questionsOfTheFullText();
        CHECK.end();
    }

    private static void putsThatFit() {
        for (int n : new int[] {1, 2, 63, 64}) {
            PieceTexts same = Make.characters(MOST - n);
            CHECK.due("put of the last " + n, MOST, () -> same.put(0, 0, 0, n, 0));
            CHECK.due("count(1)", MOST, () -> same.count(1));
            PieceTexts other = Make.characters(MOST - n);
            CHECK.due("put of the last " + n + " into another text", n, () -> other.put(15, 0, 0, n, 0));
            CHECK.due("count(1)", MOST, () -> other.count(1));
        }
    }

    private static void putsOneTooMany() {
        for (int n : new int[] {1, 2, 63, 64}) {
            Check.Maker maker = () -> Make.characters(MOST + 1 - n);
            String what = "put of " + n + " behind " + (MOST + 1 - n);
            CHECK.refusesWhole(maker, what, Check.STATE, x -> x.put(0, 0, 0, n, 0));
            CHECK.refusesWhole(maker, what + " at the end", Check.STATE, x -> x.put(0, MOST + 1 - n, 0, n, 5));
            CHECK.refusesWhole(maker, what + " into another text", Check.STATE, x -> x.put(15, 0, 0, n, 0));
        }
        CHECK.refusesWhole(Make::oneFull, "put of 64 behind all", Check.STATE, x -> x.put(0, 64, 0, 64, 0));
        CHECK.refusesWhole(Make::full, "put behind two texts", Check.STATE, x -> x.put(2, 0, 0, 1, 0));
    }

    private static void copiesThatFit() {
        for (int n : new int[] {1, 2, 64, 1000, 2047, 2048}) {
            PieceTexts x = Make.characters(MOST - n);
            CHECK.due("copy of the last " + n, (n + 63) / 64, () -> x.copy(0, 0, n, 15));
            CHECK.due("length(15)", n, () -> x.length(15));
            CHECK.due("length(0)", MOST - n, () -> x.length(0));
            CHECK.due("count(1)", MOST, () -> x.count(1));
        }
    }

    private static void copiesOneTooMany() {
        for (int n : new int[] {1, 2, 64, 1000, 2047, 2048}) {
            Check.Maker maker = () -> Make.characters(MOST + 1 - n);
            String what = "copy of " + n + " behind " + (MOST + 1 - n);
            CHECK.refusesWhole(maker, what, Check.STATE, x -> x.copy(0, 0, n, 15));
            CHECK.refusesWhole(maker, what + " from the end", Check.STATE, x -> x.copy(0, MOST + 1 - 2 * n, n, 1));
        }
        CHECK.refusesWhole(Make::oneFull, "copy of all", Check.STATE, x -> x.copy(0, 0, MOST, 1));
        CHECK.refusesWhole(Make::full, "copy of one of two texts", Check.STATE, x -> x.copy(1, 0, 1, 2));
    }

    /** The longest put, with room for it and with room for one character less. */
    private static void allBytesTwice() {
        PieceTexts x = Make.buffer(2048);
        CHECK.due("put of all bytes", 2048, () -> x.put(0, 0, 0, 2048, 0));
        CHECK.due("put of all bytes inside", MOST, () -> x.put(0, 1024, 0, 2048, 0));
        CHECK.row(x, 0, "0:0+1024#0 1024:0+2048#0 3072:1024+1024#0");
        CHECK.due("put of one more", Check.STATE, Check.answer(() -> x.put(1, 0, 0, 1, 0)));
        CHECK.due("put of all once more", Check.STATE, Check.answer(() -> x.put(1, 0, 0, 2048, 0)));
        CHECK.refusesWhole(() -> {
            PieceTexts y = Make.buffer(2048);
            y.put(0, 0, 0, 2048, 0);
            y.put(1, 0, 7, 1, 0);
            return y;
        }, "put of all behind 2049", Check.STATE, y -> y.put(0, 2048, 0, 2048, 0));
    }

    private static void changesThatAddNone() {
        PieceTexts x = Make.oneFull();
        CHECK.due("cut of half", 2048, () -> x.cut(0, 0, 2048, 1));
        CHECK.due("paste of half", MOST, () -> x.paste(0, 2048, 1));
        CHECK.due("cut of all", 0, () -> x.cut(0, 0, MOST, 1));
        CHECK.due("paste of all", MOST, () -> x.paste(0, 0, 1));
        CHECK.due("tag of all", 64, () -> x.tag(0, 0, MOST, -1, 1));
        CHECK.due("tag of one", 66, () -> x.tag(0, 70, 1, -1, 2));
        CHECK.due("copy of nothing", 0, () -> x.copy(0, MOST, 0, 1));
        CHECK.due("paste of nothing", MOST, () -> x.paste(0, MOST, 1));
        CHECK.due("cut of nothing", MOST, () -> x.cut(0, 100, 0, 1));
        CHECK.due("write", 64, () -> x.write(1L));
        CHECK.due("count(1)", MOST, () -> x.count(1));
    }

    private static void roomThatComesBack() {
        PieceTexts x = Make.full();
        CHECK.due("put behind all", Check.STATE, Check.answer(() -> x.put(2, 0, 0, 64, 0)));
        x.cut(1, 0, 64, 2);
        CHECK.due("put behind a cut", Check.STATE, Check.answer(() -> x.put(3, 0, 0, 1, 0)));
        CHECK.due("wipe of 64", 64, () -> x.wipe(2));
        CHECK.due("put of 64 behind a wipe", 64, () -> x.put(2, 0, 0, 64, 0));
        CHECK.due("put of one more", Check.STATE, Check.answer(() -> x.put(3, 0, 0, 1, 0)));
        CHECK.due("wipe of 2048", 2048, () -> x.wipe(0));
        CHECK.due("count(1)", 2048, () -> x.count(1));
        CHECK.due("wipe of the others", 1984, () -> x.wipe(1));
        CHECK.due("wipe of the last", 64, () -> x.wipe(2));
        CHECK.due("count(1)", 0, () -> x.count(1));
    }

    /** The characters of all sixteen texts count, the last one's too. */
    private static void sixteenTexts() {
        for (int i = 0; i < 16; i++) {
            int t = i;
            CHECK.refusesWhole(Make::sixteenFull, "put into text " + t, Check.STATE, x -> x.put(t, 0, 0, 1, 0));
            PieceTexts x = Make.sixteenFull();
            CHECK.due("count(1)", MOST, () -> x.count(1));
            CHECK.due("paste into text " + t, 512, () -> x.paste(t, 256, 15 - t));
            CHECK.due("copy into text " + (15 - t), Check.STATE, Check.answer(() -> x.copy(t, 0, 1, 15 - t)));
            CHECK.due("wipe of text " + t, 512, () -> x.wipe(t));
            CHECK.due("count(1)", MOST - 512, () -> x.count(1));
        }
    }

    private static void questionsOfTheFullText() {
        PieceTexts x = Make.oneFull();
        CHECK.due("length(0)", MOST, () -> x.length(0));
        CHECK.due("the last byte", 'h', () -> x.look(0, MOST - 1, 0));
        CHECK.due("the last source", 63, () -> x.look(0, MOST - 1, 1));
        CHECK.due("the last tag", 0, () -> x.look(0, MOST - 1, 2));
        CHECK.due("the last one's piece", 63, () -> x.look(0, MOST - 1, 3));
        CHECK.due("look behind it", Check.RANGE, Check.answer(() -> x.look(0, MOST, 0)));
        CHECK.due("the last piece's place", MOST - 64, () -> x.piece(0, 63, 0));
        CHECK.due("the piece behind it", Check.RANGE, Check.answer(() -> x.piece(0, 64, 0)));
        CHECK.due("find of the last one", MOST - 1, () -> x.find(0, MOST - 1, 'h'));
        CHECK.due("find from the end", -1, () -> x.find(0, MOST, 'h'));
        CHECK.due("find behind the end", Check.RANGE, Check.answer(() -> x.find(0, MOST + 1, 'h')));
        CHECK.due("find of what is not there", -1, () -> x.find(0, 0, 'z'));
        CHECK.due("differ from nothing", 0, () -> x.differ(0, 1));
        CHECK.due("differ of nothing", 0, () -> x.differ(1, 0));
        CHECK.due("differ from itself", -1, () -> x.differ(0, 0));
        CHECK.due("put before no place", Check.RANGE, Check.answer(() -> x.put(0, MOST + 1, 0, 1, 0)));
        CHECK.due("wipe(0)", MOST, () -> x.wipe(0));
        CHECK.due("count(1)", 0, () -> x.count(1));
    }
}

/** README.md's example answers what is said there. */
public final class ReadmeTest {
    private static final Check CHECK = new Check();

    public static void main(String[] args) {
        PieceTexts x = new PieceTexts();
        CHECK.due("write", 0, () -> x.write(0x636261L));
        CHECK.due("put", 3, () -> x.put(0, 0, 0, 3, 7));
        CHECK.due("cut", 2, () -> x.cut(0, 1, 1, 1));
        CHECK.due("paste", 3, () -> x.paste(0, 1, 1));
        CHECK.row(x, 0, "0:0+3#7");
        CHECK.due("tag", 2, () -> x.tag(0, 0, 1, 1, 0));
        CHECK.row(x, 0, "0:0+1#6 1:1+2#7");
        CHECK.due("copy", 2, () -> x.copy(0, 0, 2, 2));
        CHECK.due("look", 7, () -> x.look(2, 1, 2));
        CHECK.due("piece", 2, () -> x.piece(0, 1, 2));
        CHECK.due("find", 2, () -> x.find(0, 1, 'c'));
        CHECK.due("differ", 2, () -> x.differ(0, 2));
        CHECK.due("wipe", 2, () -> x.wipe(2));
        CHECK.end();
    }
}

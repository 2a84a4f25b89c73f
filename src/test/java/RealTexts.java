/** The class itself, with a new object in it. */
final class RealTexts implements Texts {
    private final PieceTexts x = new PieceTexts();

    @Override
    public int write(long s) {
        return x.write(s);
    }

    @Override
    public int put(int t, int at, int from, int n, int tag) {
        return x.put(t, at, from, n, tag);
    }

    @Override
    public int cut(int t, int at, int n, int into) {
        return x.cut(t, at, n, into);
    }

    @Override
    public int paste(int t, int at, int other) {
        return x.paste(t, at, other);
    }

    @Override
    public int copy(int t, int at, int n, int into) {
        return x.copy(t, at, n, into);
    }

    @Override
    public int tag(int t, int at, int n, int mask, int bits) {
        return x.tag(t, at, n, mask, bits);
    }

    @Override
    public int wipe(int t) {
        return x.wipe(t);
    }

    @Override
    public int length(int t) {
        return x.length(t);
    }

    @Override
    public int look(int t, int at, int what) {
        return x.look(t, at, what);
    }

    @Override
    public int piece(int t, int k, int what) {
        return x.piece(t, k, what);
    }

    @Override
    public int find(int t, int at, int c) {
        return x.find(t, at, c);
    }

    @Override
    public int differ(int t, int u) {
        return x.differ(t, u);
    }

    @Override
    public int count(int what) {
        return x.count(what);
    }
}

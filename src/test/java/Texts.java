/** The document's calls, so that the class and the model can be given the same ones. */
interface Texts {
    int write(long s);

    int put(int t, int at, int from, int n, int tag);

    int cut(int t, int at, int n, int into);

    int paste(int t, int at, int other);

    int copy(int t, int at, int n, int into);

    int tag(int t, int at, int n, int mask, int bits);

    int wipe(int t);

    int length(int t);

    int look(int t, int at, int what);

    int piece(int t, int k, int what);

    int find(int t, int at, int c);

    int differ(int t, int u);

    int count(int what);
}

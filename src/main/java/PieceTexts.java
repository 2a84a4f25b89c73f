/**
 * Texts as rows of pieces of one buffer that only grows. The row of each text
 * lies in an AVL tree of its pieces; a tree is parted and joined along one of
 * its paths, and where two rows meet, neighbours that belong together become
 * one piece, so that a text always has just one row.
 */
public final class PieceTexts {
    private static final int MOST_BYTES = 2048;
    private static final int MOST_TEXTS = 16;
    private static final int MOST_CHARACTERS = 4096;
    private static final int MOST_PIECES = 1024;
    private static final int BYTES_OF_LONG = 8;

    /** An AVL tree of 1026 pieces is at most 14 nodes high: none comes near this. */
    private static final int DEEPEST = 40;

    private final byte[] buffer;
    private int filled;
    private final Piece[] roots;
    private final Trees trees;

    public PieceTexts() {
        buffer = new byte[MOST_BYTES];
        roots = new Piece[MOST_TEXTS];
        trees = new Trees();
    }

    public int write(long s) throws IllegalArgumentException, IllegalStateException {
        int n = bytesOf(s);
        if (n == 0) {
            throw new IllegalArgumentException("the lowest byte is 0");
        }
        if (n > MOST_BYTES - filled) {
            throw new IllegalStateException("too many bytes");
        }
        int first = filled;
        for (int i = 0; i < n; i++) {
            append((byte) (s >>> (8 * i)));
        }
        return first;
    }

    public int put(int t, int at, int from, int n, int tag) throws IndexOutOfBoundsException, IllegalStateException {
        demandEdge(t, at);
        if (n < 1 || from < 0 || from > filled - n) {
            throw new IndexOutOfBoundsException("no such bytes");
        }
        Piece root = rootOf(t);
        demandRoom(n, Tally.afterPut(root, at, from, n, tag) - Row.piecesOf(root));
        Halves parts = trees.part(root, at);
        Piece middle = trees.take(from, n, tag);
        return become(t, trees.meet(trees.meet(parts.left, middle), parts.right));
    }

    public int cut(int t, int at, int n, int into)
            throws IndexOutOfBoundsException, IllegalArgumentException, IllegalStateException {
        demandRange(t, at, n);
        demandText(into);
        demandFree(into, t);
        Piece root = rootOf(t);
        demandRoom(0, Tally.afterCut(root, at, n) + Tally.within(root, at, n) - Row.piecesOf(root));
        Halves parts = trees.part(root, at);
        Halves rest = trees.part(parts.right, n);
        become(into, rest.left);
        return become(t, trees.meet(parts.left, rest.right));
    }

    public int paste(int t, int at, int other)
            throws IndexOutOfBoundsException, IllegalArgumentException, IllegalStateException {
        demandEdge(t, at);
        demandText(other);
        if (other == t) {
            throw new IllegalArgumentException("a text can't be pasted into itself");
        }
        Piece root = rootOf(t);
        Piece middle = rootOf(other);
        demandRoom(0, Tally.afterPaste(root, at, middle) - Row.piecesOf(root) - Row.piecesOf(middle));
        Halves parts = trees.part(root, at);
        become(other, null);
        return become(t, trees.meet(trees.meet(parts.left, middle), parts.right));
    }

    public int copy(int t, int at, int n, int into)
            throws IndexOutOfBoundsException, IllegalArgumentException, IllegalStateException {
        demandRange(t, at, n);
        demandText(into);
        demandFree(into, t);
        Piece root = rootOf(t);
        demandRoom(n, Tally.within(root, at, n));
        become(into, trees.twin(root, at, at + n, DEEPEST));
        return Row.piecesOf(rootOf(into));
    }

    public int tag(int t, int at, int n, int mask, int bits) throws IndexOutOfBoundsException, IllegalStateException {
        demandRange(t, at, n);
        Piece root = rootOf(t);
        demandRoom(0, Tally.afterTag(root, at, n, mask, bits) - Row.piecesOf(root));
        Halves parts = trees.part(root, at);
        Halves rest = trees.part(parts.right, n);
        Piece middle = trees.retag(rest.left, mask, bits, DEEPEST);
        become(t, trees.meet(trees.meet(parts.left, middle), rest.right));
        return Row.piecesOf(rootOf(t));
    }

    public int wipe(int t) throws IndexOutOfBoundsException {
        demandText(t);
        Piece root = rootOf(t);
        int had = Row.charactersOf(root);
        become(t, null);
        trees.giveBackAll(root, DEEPEST);
        return had;
    }

    public int length(int t) {
        return isText(t) ? Row.charactersOf(rootOf(t)) : -1;
    }

    public int look(int t, int at, int what) throws IndexOutOfBoundsException, IllegalArgumentException {
        demandText(t);
        Piece root = rootOf(t);
        if (at < 0 || at >= Row.charactersOf(root)) {
            throw new IndexOutOfBoundsException("no such place");
        }
        switch (what) {
            case 0:
                return byteAt(Row.sourceAt(root, at));
            case 1:
                return Row.sourceAt(root, at);
            case 2:
                return Row.tagAt(root, at);
            case 3:
                return Row.orderAt(root, at);
            default:
                throw new IllegalArgumentException("no such property of a character");
        }
    }

    public int piece(int t, int k, int what) throws IndexOutOfBoundsException, IllegalArgumentException {
        demandText(t);
        Piece root = rootOf(t);
        Piece found = Row.numbered(root, k);
        if (found == null) {
            throw new IndexOutOfBoundsException("no such piece");
        }
        switch (what) {
            case 0:
                return Row.startOf(root, k);
            case 1:
                return found.source;
            case 2:
                return found.size;
            case 3:
                return found.tag;
            default:
                throw new IllegalArgumentException("no such property of a piece");
        }
    }

    public int find(int t, int at, int c) throws IndexOutOfBoundsException {
        demandEdge(t, at);
        Piece root = rootOf(t);
        int end = Row.charactersOf(root);
        Reader reader = new Reader(root, at);
        for (int place = at; place < end; place++) {
            if (byteAt(reader.nextSource()) == c) {
                return place;
            }
        }
        return -1;
    }

    public int differ(int t, int u) throws IndexOutOfBoundsException {
        demandText(t);
        demandText(u);
        int end = Math.max(Row.charactersOf(rootOf(t)), Row.charactersOf(rootOf(u)));
        Reader one = new Reader(rootOf(t), 0);
        Reader two = new Reader(rootOf(u), 0);
        // Behind a text's end the bytes read are 0, which no character's byte is.
        for (int place = 0; place < end; place++) {
            if (byteAt(one.nextSource()) != byteAt(two.nextSource())) {
                return place;
            }
        }
        return -1;
    }

    public int count(int what) {
        switch (what) {
            case 0:
                return filled;
            case 1:
                return charactersInAll();
            case 2:
                return piecesInAll();
            case 3:
                return allShallow() ? 1 : 0;
            default:
                return -1;
        }
    }

    private static int bytesOf(long s) {
        for (int i = 0; i < BYTES_OF_LONG; i++) {
            if (((s >>> (8 * i)) & 255L) == 0L) {
                return i;
            }
        }
        return BYTES_OF_LONG;
    }

    private void append(byte b) {
        if (filled >= 0 && filled < buffer.length) {
            buffer[filled] = b;
            filled++;
        }
    }

    /** 0 for a number that no byte has; the bytes themselves are 1 .. 255. */
    private int byteAt(int number) {
        return number < 0 || number >= filled || number >= buffer.length ? 0 : buffer[number] & 255;
    }

    private boolean isText(int t) {
        return t >= 0 && t < roots.length;
    }

    private Piece rootOf(int t) {
        return t >= 0 && t < roots.length ? roots[t] : null;
    }

    private int become(int t, Piece root) {
        if (t >= 0 && t < roots.length) {
            roots[t] = root;
        }
        return Row.charactersOf(root);
    }

    private int charactersInAll() {
        int sum = 0;
        for (Piece root : roots) {
            sum += Row.charactersOf(root);
        }
        return sum;
    }

    private int piecesInAll() {
        int sum = 0;
        for (Piece root : roots) {
            sum += Row.piecesOf(root);
        }
        return sum;
    }

    private boolean allShallow() {
        for (Piece root : roots) {
            if (!Row.isShallow(root)) {
                return false;
            }
        }
        return true;
    }

    private void demandText(int t) {
        if (!isText(t)) {
            throw new IndexOutOfBoundsException("no such text");
        }
    }

    /** A place before which characters can go, or the end of the text. */
    private void demandEdge(int t, int at) {
        demandText(t);
        if (at < 0 || at > Row.charactersOf(rootOf(t))) {
            throw new IndexOutOfBoundsException("no such place");
        }
    }

    private void demandRange(int t, int at, int n) {
        demandText(t);
        if (n < 0 || at < 0 || at > Row.charactersOf(rootOf(t)) - n) {
            throw new IndexOutOfBoundsException("no such range");
        }
    }

    private void demandFree(int into, int t) {
        if (into == t || rootOf(into) != null) {
            throw new IllegalArgumentException("not another text without characters");
        }
    }

    private void demandRoom(int moreCharacters, int morePieces) {
        if (charactersInAll() > MOST_CHARACTERS - moreCharacters) {
            throw new IllegalStateException("too many characters");
        }
        if (piecesInAll() > MOST_PIECES - morePieces) {
            throw new IllegalStateException("too many pieces");
        }
    }

    /** A piece, as a node of its text's tree; the sums are those of the tree below it. */
    private static final class Piece {
        private int source;
        private int size;
        private int tag;
        private Piece left;
        private Piece right;
        private int height;
        private int pieces;
        private int characters;
    }

    /** What a tree is parted into. */
    private static final class Halves {
        private Piece left;
        private Piece right;
    }

    /** What can be asked of a row that lies in a tree; null is the empty row. */
    private static final class Row {
        private Row() {
        }

        private static int heightOf(Piece root) {
            return root == null ? 0 : root.height;
        }

        private static int piecesOf(Piece root) {
            return root == null ? 0 : root.pieces;
        }

        private static int charactersOf(Piece root) {
            return root == null ? 0 : root.characters;
        }

        /** The number of the piece that has this place; the number of pieces if none has. */
        private static int orderAt(Piece root, int place) {
            int passed = 0;
            int rest = place;
            Piece p = root;
            while (p != null) {
                int before = charactersOf(p.left);
                if (rest < before) {
                    p = p.left;
                } else if (rest < before + p.size) {
                    return passed + piecesOf(p.left);
                } else {
                    passed += piecesOf(p.left) + 1;
                    rest -= before + p.size;
                    p = p.right;
                }
            }
            return passed;
        }

        /** Piece k of the row; null if there is none. */
        private static Piece numbered(Piece root, int k) {
            int rest = k;
            Piece p = root;
            while (p != null) {
                int before = piecesOf(p.left);
                if (rest == before) {
                    return p;
                }
                if (rest < before) {
                    p = p.left;
                } else {
                    rest -= before + 1;
                    p = p.right;
                }
            }
            return null;
        }

        /** The place at which piece k begins. */
        private static int startOf(Piece root, int k) {
            int passed = 0;
            int rest = k;
            Piece p = root;
            while (p != null) {
                int before = piecesOf(p.left);
                if (rest <= before) {
                    p = p.left;
                } else {
                    passed += charactersOf(p.left) + p.size;
                    rest -= before + 1;
                    p = p.right;
                }
            }
            return passed;
        }

        private static int sourceAt(Piece root, int place) {
            int k = orderAt(root, place);
            Piece p = numbered(root, k);
            return p == null ? -1 : p.source + place - startOf(root, k);
        }

        private static int tagAt(Piece root, int place) {
            Piece p = numbered(root, orderAt(root, place));
            return p == null ? 0 : p.tag;
        }

        /** Whether the height is at most 2 * log2(n + 1) + 2, squared to stay with whole numbers. */
        private static boolean isShallow(Piece root) {
            int height = heightOf(root);
            if (height <= 2) {
                return true;
            }
            long wide = piecesOf(root) + 1L;
            return height <= DEEPEST && 1L << (height - 2) <= wide * wide;
        }
    }

    /** Reads a row's sources one after the other, from a place on. */
    private static final class Reader {
        private final Piece root;
        private int order;
        private Piece current;
        private int offset;

        private Reader(Piece root, int at) {
            this.root = root;
            order = Row.orderAt(root, at);
            current = Row.numbered(root, order);
            offset = at - Row.startOf(root, order);
        }

        /** -1 behind the row's end. */
        private int nextSource() {
            if (current == null) {
                return -1;
            }
            int source = current.source + offset;
            offset++;
            if (offset >= current.size) {
                order++;
                current = Row.numbered(root, order);
                offset = 0;
            }
            return source;
        }
    }

    /** How many pieces rows will have: counted before a change, as what throws changes nothing. */
    private static final class Tally {
        private Tally() {
        }

        private static int afterPut(Piece root, int at, int from, int n, int tag) {
            return before(root, at) + 1 + behind(root, at)
                    - meldsLeft(root, at, from, tag)
                    - meldsRight(root, at, from + n - 1, tag);
        }

        private static int afterCut(Piece root, int at, int n) {
            int end = at + n;
            int apart = before(root, at) + behind(root, end);
            if (end >= Row.charactersOf(root)) {
                return apart;
            }
            return apart - meldsLeft(root, at, Row.sourceAt(root, end), Row.tagAt(root, end));
        }

        private static int afterPaste(Piece root, int at, Piece middle) {
            if (middle == null) {
                return Row.piecesOf(root);
            }
            int last = Row.charactersOf(middle) - 1;
            return before(root, at) + Row.piecesOf(middle) + behind(root, at)
                    - meldsLeft(root, at, Row.sourceAt(middle, 0), Row.tagAt(middle, 0))
                    - meldsRight(root, at, Row.sourceAt(middle, last), Row.tagAt(middle, last));
        }

        private static int afterTag(Piece root, int at, int n, int mask, int bits) {
            if (n < 1) {
                return Row.piecesOf(root);
            }
            int last = at + n - 1;
            int firstTag = tagged(Row.tagAt(root, at), mask, bits);
            int lastTag = tagged(Row.tagAt(root, last), mask, bits);
            return before(root, at) + withinTagged(root, at, n, mask, bits) + behind(root, at + n)
                    - meldsLeft(root, at, Row.sourceAt(root, at), firstTag)
                    - meldsRight(root, at + n, Row.sourceAt(root, last), lastTag);
        }

        /** The pieces of a range, taken for itself. */
        private static int within(Piece root, int at, int n) {
            return n < 1 ? 0 : Row.orderAt(root, at + n - 1) - Row.orderAt(root, at) + 1;
        }

        private static int withinTagged(Piece root, int at, int n, int mask, int bits) {
            int first = Row.orderAt(root, at);
            int last = Row.orderAt(root, at + n - 1);
            int found = 1;
            Piece left = Row.numbered(root, first);
            for (int k = first + 1; k <= last; k++) {
                Piece right = Row.numbered(root, k);
                if (left == null || right == null || left.source + left.size != right.source
                        || tagged(left.tag, mask, bits) != tagged(right.tag, mask, bits)) {
                    found++;
                }
                left = right;
            }
            return found;
        }

        /** The pieces of the characters before a place, taken for themselves. */
        private static int before(Piece root, int at) {
            return at < 1 ? 0 : Row.orderAt(root, at - 1) + 1;
        }

        /** The pieces of the characters from a place on, taken for themselves. */
        private static int behind(Piece root, int at) {
            return Row.piecesOf(root) - Row.orderAt(root, at);
        }

        /** 1 if the character left of this place would be in one piece with such a right neighbour. */
        private static int meldsLeft(Piece root, int at, int source, int tag) {
            if (at < 1) {
                return 0;
            }
            return Row.sourceAt(root, at - 1) + 1 == source && Row.tagAt(root, at - 1) == tag ? 1 : 0;
        }

        /** 1 if the character at this place would be in one piece with such a left neighbour. */
        private static int meldsRight(Piece root, int at, int source, int tag) {
            if (at >= Row.charactersOf(root)) {
                return 0;
            }
            return source + 1 == Row.sourceAt(root, at) && Row.tagAt(root, at) == tag ? 1 : 0;
        }

        private static int tagged(int tag, int mask, int bits) {
            return (tag & ~mask) | (bits & mask);
        }
    }

    /** Changes trees, and keeps the nodes that no tree has any more for later use. */
    private static final class Trees {
        private Piece spare;

        private Piece take(int source, int size, int tag) {
            Piece p = spare;
            if (p == null) {
                p = new Piece();
            } else {
                spare = p.right;
            }
            p.source = source;
            p.size = size;
            p.tag = tag;
            return alone(p);
        }

        private void giveBack(Piece p) {
            p.left = null;
            p.right = spare;
            spare = p;
        }

        private void giveBackAll(Piece root, int levels) {
            if (root == null || levels < 1) {
                return;
            }
            giveBackAll(root.left, levels - 1);
            giveBackAll(root.right, levels - 1);
            giveBack(root);
        }

        /** The first so many characters of a row, and the others. */
        private Halves part(Piece root, int first) {
            Halves halves = new Halves();
            partInto(halves, root, first, DEEPEST);
            return halves;
        }

        private void partInto(Halves halves, Piece p, int first, int levels) {
            if (p == null || levels < 1) {
                halves.left = null;
                halves.right = p;
                return;
            }
            Piece left = p.left;
            Piece right = p.right;
            int inside = first - Row.charactersOf(left);
            if (inside <= 0) {
                partInto(halves, left, first, levels - 1);
                halves.right = join(halves.right, p, right, DEEPEST);
            } else if (inside >= p.size) {
                partInto(halves, right, inside - p.size, levels - 1);
                halves.left = join(left, p, halves.left, DEEPEST);
            } else {
                Piece tail = take(p.source + inside, p.size - inside, p.tag);
                p.size = inside;
                halves.left = join(left, p, null, DEEPEST);
                halves.right = join(null, tail, right, DEEPEST);
            }
        }

        /** One row of two; where they meet, pieces that belong together become one. */
        private Piece meet(Piece left, Piece right) {
            Piece last = lastOf(left);
            Piece first = firstOf(right);
            if (last == null) {
                return right;
            }
            if (first == null) {
                return left;
            }
            Piece others = right;
            if (last.source + last.size == first.source && last.tag == first.tag) {
                others = withoutFirst(right, DEEPEST);
                last.size += first.size;
                giveBack(first);
            }
            return join(withoutLast(left, DEEPEST), last, others, DEEPEST);
        }

        /** A copy of the places from .. to - 1 of a row, in nodes of its own. */
        private Piece twin(Piece p, int from, int to, int levels) {
            if (p == null || from >= to || levels < 1) {
                return null;
            }
            int start = Row.charactersOf(p.left);
            int end = start + p.size;
            Piece left = twin(p.left, from, Math.min(to, start), levels - 1);
            Piece right = twin(p.right, Math.max(from, end) - end, to - end, levels - 1);
            int begin = Math.max(from, start);
            int stop = Math.min(to, end);
            if (begin >= stop) {
                return left == null ? right : left;
            }
            return join(left, take(p.source + begin - start, stop - begin, p.tag), right, DEEPEST);
        }

        private Piece retag(Piece p, int mask, int bits, int levels) {
            if (p == null || levels < 1) {
                return p;
            }
            Piece left = retag(p.left, mask, bits, levels - 1);
            Piece right = retag(p.right, mask, bits, levels - 1);
            p.tag = Tally.tagged(p.tag, mask, bits);
            return meet(meet(left, alone(p)), right);
        }

        private static Piece alone(Piece p) {
            p.left = null;
            p.right = null;
            sum(p);
            return p;
        }

        private static Piece firstOf(Piece root) {
            Piece first = null;
            for (Piece p = root; p != null; p = p.left) {
                first = p;
            }
            return first;
        }

        private static Piece lastOf(Piece root) {
            Piece last = null;
            for (Piece p = root; p != null; p = p.right) {
                last = p;
            }
            return last;
        }

        private static Piece withoutFirst(Piece p, int levels) {
            if (p == null || levels < 1) {
                return p;
            }
            if (p.left == null) {
                return p.right;
            }
            p.left = withoutFirst(p.left, levels - 1);
            return balance(p);
        }

        private static Piece withoutLast(Piece p, int levels) {
            if (p == null || levels < 1) {
                return p;
            }
            if (p.right == null) {
                return p.left;
            }
            p.right = withoutLast(p.right, levels - 1);
            return balance(p);
        }

        /** The row left, middle, right: goes down the higher tree to where the lower one fits. */
        private static Piece join(Piece left, Piece middle, Piece right, int levels) {
            int tilt = Row.heightOf(left) - Row.heightOf(right);
            if (left != null && tilt > 1 && levels > 0) {
                left.right = join(left.right, middle, right, levels - 1);
                return balance(left);
            }
            if (right != null && tilt < -1 && levels > 0) {
                right.left = join(left, middle, right.left, levels - 1);
                return balance(right);
            }
            middle.left = left;
            middle.right = right;
            sum(middle);
            return middle;
        }

        private static Piece balance(Piece p) {
            sum(p);
            Piece left = p.left;
            Piece right = p.right;
            int tilt = Row.heightOf(left) - Row.heightOf(right);
            if (tilt > 1 && left != null) {
                if (Row.heightOf(left.right) > Row.heightOf(left.left)) {
                    p.left = raiseRight(left);
                }
                return raiseLeft(p);
            }
            if (tilt < -1 && right != null) {
                if (Row.heightOf(right.left) > Row.heightOf(right.right)) {
                    p.right = raiseLeft(right);
                }
                return raiseRight(p);
            }
            return p;
        }

        private static Piece raiseLeft(Piece p) {
            Piece up = p.left;
            if (up == null) {
                return p;
            }
            p.left = up.right;
            up.right = p;
            sum(p);
            sum(up);
            return up;
        }

        private static Piece raiseRight(Piece p) {
            Piece up = p.right;
            if (up == null) {
                return p;
            }
            p.right = up.left;
            up.left = p;
            sum(p);
            sum(up);
            return up;
        }

        private static void sum(Piece p) {
            int height = 0;
            int pieces = 1;
            int characters = p.size;
            Piece left = p.left;
            if (left != null) {
                height = left.height;
                pieces += left.pieces;
                characters += left.characters;
            }
            Piece right = p.right;
            if (right != null) {
                height = Math.max(height, right.height);
                pieces += right.pieces;
                characters += right.characters;
            }
            p.height = height + 1;
            p.pieces = pieces;
            p.characters = characters;
        }
    }
}

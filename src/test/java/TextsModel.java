import java.util.ArrayList;
import java.util.List;

/** The document's words done the slow way, character by character: what the answers are measured by. */
final class TextsModel implements Texts {
    private static final int TEXTS = 16;

    private List<Integer> bytes = new ArrayList<>();
    private List<List<Unit>> texts = new ArrayList<>();

    private record Unit(int source, int tag) {
        boolean before(Unit right) {
            return right.source == source + 1 && right.tag == tag;
        }
    }

    TextsModel() {
        for (int t = 0; t < TEXTS; t++) {
            texts.add(new ArrayList<>());
        }
    }

    /** What changes one of the two leaves the other as it is: changes are made in copies of the lists. */
    TextsModel twin() {
        TextsModel other = new TextsModel();
        other.bytes = bytes;
        other.texts = texts;
        return other;
    }

    @Override
    public int write(long s) {
        List<Integer> more = new ArrayList<>();
        for (long rest = s; (rest & 255) != 0; rest >>>= 8) {
            more.add((int) (rest & 255));
        }
        argument(!more.isEmpty());
        state(bytes.size() + more.size() <= 2048);
        int first = bytes.size();
        bytes = new ArrayList<>(bytes);
        bytes.addAll(more);
        return first;
    }

    @Override
    public int put(int t, int at, int from, int n, int tag) {
        edge(t, at);
        range(n >= 1 && from >= 0 && (long) from + n <= bytes.size());
        List<Unit> more = new ArrayList<>();
        for (int i = 0; i < n; i++) {
            more.add(new Unit(from + i, tag));
        }
        List<List<Unit>> next = changed();
        next.get(t).addAll(at, more);
        settle(next);
        return texts.get(t).size();
    }

    @Override
    public int cut(int t, int at, int n, int into) {
        rangeOf(t, at, n);
        text(into);
        argument(into != t && texts.get(into).isEmpty());
        List<List<Unit>> next = changed();
        List<Unit> part = next.get(t).subList(at, at + n);
        next.get(into).addAll(part);
        part.clear();
        settle(next);
        return texts.get(t).size();
    }

    @Override
    public int paste(int t, int at, int other) {
        edge(t, at);
        text(other);
        argument(other != t);
        List<List<Unit>> next = changed();
        next.get(t).addAll(at, next.get(other));
        next.get(other).clear();
        settle(next);
        return texts.get(t).size();
    }

    @Override
    public int copy(int t, int at, int n, int into) {
        rangeOf(t, at, n);
        text(into);
        argument(into != t && texts.get(into).isEmpty());
        List<List<Unit>> next = changed();
        next.get(into).addAll(next.get(t).subList(at, at + n));
        settle(next);
        return pieces(texts.get(into));
    }

    @Override
    public int tag(int t, int at, int n, int mask, int bits) {
        rangeOf(t, at, n);
        List<List<Unit>> next = changed();
        for (int i = at; i < at + n; i++) {
            Unit u = next.get(t).get(i);
            int tag = 0;
            for (int bit = 1; bit != 0; bit <<= 1) {
                tag |= (mask & bit) != 0 ? bits & bit : u.tag & bit;
            }
            next.get(t).set(i, new Unit(u.source, tag));
        }
        settle(next);
        return pieces(texts.get(t));
    }

    @Override
    public int wipe(int t) {
        text(t);
        int had = texts.get(t).size();
        List<List<Unit>> next = changed();
        next.get(t).clear();
        settle(next);
        return had;
    }

    @Override
    public int length(int t) {
        return t < 0 || t >= TEXTS ? -1 : texts.get(t).size();
    }

    @Override
    public int look(int t, int at, int what) {
        text(t);
        range(at >= 0 && at < texts.get(t).size());
        argument(what >= 0 && what <= 3);
        Unit u = texts.get(t).get(at);
        return switch (what) {
            case 0 -> bytes.get(u.source);
            case 1 -> u.source;
            case 2 -> u.tag;
            default -> pieces(texts.get(t).subList(0, at + 1)) - 1;
        };
    }

    @Override
    public int piece(int t, int k, int what) {
        text(t);
        List<Unit> row = texts.get(t);
        range(k >= 0 && k < pieces(row));
        argument(what >= 0 && what <= 3);
        int start = 0;
        for (int i = 0, passed = 0; passed < k; i++) {
            if (!row.get(i).before(row.get(i + 1))) {
                passed++;
                start = i + 1;
            }
        }
        int end = start + 1;
        while (end < row.size() && row.get(end - 1).before(row.get(end))) {
            end++;
        }
        return switch (what) {
            case 0 -> start;
            case 1 -> row.get(start).source;
            case 2 -> end - start;
            default -> row.get(start).tag;
        };
    }

    @Override
    public int find(int t, int at, int c) {
        edge(t, at);
        List<Unit> row = texts.get(t);
        for (int i = at; i < row.size(); i++) {
            if (bytes.get(row.get(i).source) == c) {
                return i;
            }
        }
        return -1;
    }

    @Override
    public int differ(int t, int u) {
        text(t);
        text(u);
        List<Unit> one = texts.get(t);
        List<Unit> two = texts.get(u);
        int shared = Math.min(one.size(), two.size());
        for (int i = 0; i < shared; i++) {
            if (!bytes.get(one.get(i).source).equals(bytes.get(two.get(i).source))) {
                return i;
            }
        }
        return one.size() == two.size() ? -1 : shared;
    }

    @Override
    public int count(int what) {
        return switch (what) {
            case 0 -> bytes.size();
            case 1 -> characters(texts);
            case 2 -> piecesInAll(texts);
            case 3 -> 1;
            default -> -1;
        };
    }

    private List<List<Unit>> changed() {
        List<List<Unit>> next = new ArrayList<>();
        for (List<Unit> row : texts) {
            next.add(new ArrayList<>(row));
        }
        return next;
    }

    private void settle(List<List<Unit>> next) {
        state(characters(next) <= 4096 && piecesInAll(next) <= 1024);
        texts = next;
    }

    private static int characters(List<List<Unit>> all) {
        int sum = 0;
        for (List<Unit> row : all) {
            sum += row.size();
        }
        return sum;
    }

    private static int piecesInAll(List<List<Unit>> all) {
        int sum = 0;
        for (List<Unit> row : all) {
            sum += pieces(row);
        }
        return sum;
    }

    private static int pieces(List<Unit> row) {
        int sum = row.isEmpty() ? 0 : 1;
        for (int i = 1; i < row.size(); i++) {
            if (!row.get(i - 1).before(row.get(i))) {
                sum++;
            }
        }
        return sum;
    }

    private void text(int t) {
        range(t >= 0 && t < TEXTS);
    }

    private void edge(int t, int at) {
        text(t);
        range(at >= 0 && at <= texts.get(t).size());
    }

    private void rangeOf(int t, int at, int n) {
        text(t);
        range(n >= 0 && at >= 0 && (long) at + n <= texts.get(t).size());
    }

    private static void range(boolean good) {
        if (!good) {
            throw new IndexOutOfBoundsException();
        }
    }

    private static void argument(boolean good) {
        if (!good) {
            throw new IllegalArgumentException();
        }
    }

    private static void state(boolean good) {
        if (!good) {
            throw new IllegalStateException();
        }
    }
}

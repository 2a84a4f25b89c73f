import java.util.Arrays;

/**
 * Every call with every choice of arguments at and beside their bounds (and at
 * the int's ends), in states from the empty to the full ones: the answer, or
 * the exception, and the state behind it must be the slow model's.
 */
public final class GridTest {
    private static final Check CHECK = new Check();
    private static final int MAX = Integer.MAX_VALUE;
    private static final int MIN = Integer.MIN_VALUE;
    private static final int[] TEXTS = {MIN, -1, 0, 1, 2, 15, 16, MAX};
    private static final int[] WHATS = {MIN, -1, 0, 1, 2, 3, 4, MAX};

    /** With those that make the state and those that compare it, fewer than 512 calls on an object. */
    private static final int MOST_REFUSED = 100;
    private static final int MOST_COMPARED = 12;

    private interface Scene {
        void set(Texts x);
    }

    private interface Call {
        int answer(Texts x);
    }

    private final String name;
    private final Scene scene;
    private final TextsModel start = new TextsModel();
    private Texts real;
    private int refused;

    private GridTest(String name, Scene scene) {
        this.name = name;
        this.scene = scene;
        scene.set(start);
        anew();
    }

    public static void main(String[] args) {
        new GridTest("nothing", x -> { }).allCalls();
        new GridTest("only bytes", x -> x.write(Make.bytes("abcabc"))).allCalls();
        new GridTest("few pieces", GridTest::fewPieces).allCalls();
        new GridTest("1024 pieces", GridTest::crowded).has(2, 1024).allCalls();
        new GridTest("1023 pieces", GridTest::almostCrowded).has(2, 1023).allCalls();
        new GridTest("4096 characters", GridTest::full).has(1, 4096).allCalls();
        new GridTest("4095 characters", GridTest::almostFull).has(1, 4095).allCalls();
        CHECK.end();
    }

    private static void fewPieces(Texts x) {
        x.write(Make.bytes("abcdef"));
        x.put(0, 0, 0, 6, 0);
        x.put(0, 3, 3, 2, 1);
        x.put(1, 0, 3, 3, 0);
        x.put(15, 0, 0, 2, 0);
        x.put(15, 2, 0, 2, 0);
    }

    private static void doubled(Texts x, int length) {
        for (int n = x.length(7); n < length; n = x.length(7)) {
            x.copy(7, 0, n, 8);
            x.paste(7, n, 8);
        }
    }

    /** Text 7 has most of the pieces; the other texts with any are those of the few. */
    private static void almostCrowded(Texts x) {
        x.write(Make.bytes("abcdef"));
        x.put(7, 0, 0, 1, 0);
        doubled(x, 1024);
        x.cut(7, 0, 7, 8);
        x.wipe(8);
        x.put(0, 0, 0, 6, 0);
        x.put(0, 3, 3, 2, 1);
        x.put(1, 0, 3, 3, 0);
        x.put(15, 0, 0, 2, 0);
        x.put(15, 2, 0, 2, 0);
    }

    private static void crowded(Texts x) {
        almostCrowded(x);
        x.put(7, 0, 5, 1, 0);
    }

    private static void almostFull(Texts x) {
        for (int i = 0; i < 8; i++) {
            x.write(Make.bytes("abcdefgh"));
        }
        x.put(7, 0, 0, 64, 0);
        doubled(x, 4096 - 64);
        x.cut(7, 0, 16, 8);
        x.wipe(8);
        x.put(0, 0, 0, 6, 0);
        x.put(0, 3, 3, 2, 1);
        x.put(1, 0, 3, 3, 0);
        x.put(15, 0, 0, 2, 0);
        x.put(15, 2, 0, 2, 0);
    }

    private static void full(Texts x) {
        almostFull(x);
        x.put(7, 0, 5, 1, 0);
    }

    private GridTest has(int what, int due) {
        CHECK.due(name + ": count(" + what + ")", due, () -> start.count(what));
        return this;
    }

    private void anew() {
        real = new RealTexts();
        scene.set(real);
        refused = 0;
    }

    /** A call that is refused leaves the object for the next one, on which a change would show. */
    private void tried(String what, Call call) {
        TextsModel model = start.twin();
        String want = Check.answer(() -> call.answer(model));
        CHECK.due(name + ": " + what, want, Check.answer(() -> call.answer(real)));
        refused++;
        if (!want.startsWith("throws") || refused >= MOST_REFUSED) {
            CHECK.due(name + ": the state after " + what, state(model), state(real));
            anew();
        }
    }

    private static String state(Texts x) {
        StringBuilder s = new StringBuilder();
        for (int what = 0; what < 4; what++) {
            s.append(x.count(what)).append(' ');
        }
        for (int t = 0; t < 16; t++) {
            int length = x.length(t);
            int pieces = length < 1 ? 0 : x.look(t, length - 1, 3) + 1;
            s.append("| ").append(length).append(' ').append(pieces).append(' ');
            for (int k = 0; k < pieces && pieces <= MOST_COMPARED; k++) {
                s.append(x.piece(t, k, 0)).append(':').append(x.piece(t, k, 1)).append('+');
                s.append(x.piece(t, k, 2)).append('#').append(x.piece(t, k, 3)).append(' ');
            }
        }
        return s.toString();
    }

    private void allCalls() {
        writes();
        for (int t : TEXTS) {
            int length = Math.max(0, start.length(t));
            for (int at : around(length)) {
                puts(t, at);
                ranges(t, at, length);
                questions(t, at);
            }
            for (int u : TEXTS) {
                tried("differ(" + t + ", " + u + ")", x -> x.differ(t, u));
            }
            tried("wipe(" + t + ")", x -> x.wipe(t));
            tried("length(" + t + ")", x -> x.length(t));
        }
        for (int what : WHATS) {
            tried("count(" + what + ")", x -> x.count(what));
        }
    }

    private static int[] around(int bound) {
        int[] all = {MIN, MIN + 1, -1, 0, 1, 2, 3, bound - 1, bound, bound + 1, MAX - bound, MAX - 1, MAX};
        return Arrays.stream(all).distinct().toArray();
    }

    private void writes() {
        for (long s : new long[] {0, 1, 255, 256, -1, -256, 0x6100, 0x610062, Long.MIN_VALUE, Long.MAX_VALUE}) {
            tried("write(" + s + ")", x -> x.write(s));
        }
    }

    private void puts(int t, int at) {
        for (int from : around(start.count(0))) {
            for (int n : around(start.count(0))) {
                for (int tag : new int[] {0, 1, MIN}) {
                    tried("put(" + t + ", " + at + ", " + from + ", " + n + ", " + tag + ")",
                            x -> x.put(t, at, from, n, tag));
                }
            }
        }
    }

    private void ranges(int t, int at, int length) {
        for (int u : TEXTS) {
            tried("paste(" + t + ", " + at + ", " + u + ")", x -> x.paste(t, at, u));
            for (int n : around(length)) {
                String args = "(" + t + ", " + at + ", " + n + ", " + u + ")";
                tried("cut" + args, x -> x.cut(t, at, n, u));
                tried("copy" + args, x -> x.copy(t, at, n, u));
            }
        }
        for (int n : around(length)) {
            for (int mask : new int[] {-1, 0, 1, MIN}) {
                for (int bits : new int[] {-1, 0}) {
                    tried("tag(" + t + ", " + at + ", " + n + ", " + mask + ", " + bits + ")",
                            x -> x.tag(t, at, n, mask, bits));
                }
            }
        }
    }

    private void questions(int t, int at) {
        for (int what : WHATS) {
            tried("look(" + t + ", " + at + ", " + what + ")", x -> x.look(t, at, what));
            tried("piece(" + t + ", " + at + ", " + what + ")", x -> x.piece(t, at, what));
        }
        for (int c : new int[] {MIN, -1, 0, 'a', 'd', 'f', 'z', 256 + 'a', MAX}) {
            tried("find(" + t + ", " + at + ", " + c + ")", x -> x.find(t, at, c));
        }
    }
}

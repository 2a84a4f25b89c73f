import java.util.ArrayList;
import java.util.List;

/**
 * Long runs of calls, drawn from a fixed row of numbers, on an object and on
 * the slow model side by side: every answer and every exception must be the
 * model's. What a call that threw had changed would show in later answers.
 */
public final class ModelRunsTest {
    private static final int CALLS = 512;

    private final PieceTexts real = new PieceTexts();
    private final TextsModel model = new TextsModel();
    private final List<String> told = new ArrayList<>();
    private final int texts;
    private final int growth;
    private final boolean wild;
    private boolean crowded;
    private boolean failed;
    private int calls;
    private long seed;

    /** texts: how many are used; growth: of eight changes, how many double a text; wild: wrong arguments too. */
    private ModelRunsTest(long seed, int texts, int growth, boolean wild) {
        this.seed = seed * 7919 + 17;
        this.texts = texts;
        this.growth = growth;
        this.wild = wild;
    }

    public static void main(String[] args) {
        int wrong = 0;
        for (int i = 0; i < 600; i++) {
            wrong += new ModelRunsTest(i, 1 + i % 5, 0, i % 3 == 0).run();
        }
        for (int i = 600; i < 720; i++) {
            wrong += new ModelRunsTest(i, 2 + i % 3, 1 + i % 4, i % 2 == 0).run();
        }
        for (int i = 720; i < 840; i++) {
            wrong += new ModelRunsTest(i, 4, 0, i % 4 == 0).crowd().run();
        }
        if (wrong != 0) {
            System.out.println(wrong + " runs are not as the model's");
            System.exit(1);
        }
    }

    /** Brings the object as near to 1024 pieces as doubling and single characters do, and keeps changes small. */
    private ModelRunsTest crowd() {
        crowded = true;
        writeSome();
        writeSome();
        for (int i = 0; i < 12; i++) {
            putSome(0, place(0));
        }
        while (model.count(2) <= 340 && calls < 100) {
            int n = model.length(0);
            same("copy 0 0 " + n + " 1", () -> real.copy(0, 0, n, 1), () -> model.copy(0, 0, n, 1));
            same("paste 0 0 1", () -> real.paste(0, 0, 1), () -> model.paste(0, 0, 1));
        }
        while (model.count(2) <= 1020 && calls < 200) {
            int rest = Math.min(model.length(0), 1022 - model.count(2));
            int n = below(rest + 1);
            int u = 1 + below(2);
            same("copy 0 0 " + n + " 3", () -> real.copy(0, 0, n, 3), () -> model.copy(0, 0, n, 3));
            same("paste " + u + " 0 3", () -> real.paste(u, 0, 3), () -> model.paste(u, 0, 3));
        }
        return this;
    }

    /** 1 if an answer was wrong, else 0. */
    private int run() {
        for (int i = 0; calls + 2 <= CALLS; i++) {
            boolean good = i < 6 ? writeSome() : step();
            if (!good || failed) {
                for (String line : told.subList(Math.max(0, told.size() - 20), told.size())) {
                    System.out.println(line);
                }
                return 1;
            }
        }
        return 0;
    }

    private boolean step() {
        int kind = below(16);
        if (kind < 8) {
            return below(8) < growth ? doubled() : change(kind);
        }
        return ask(kind - 8);
    }

    private boolean change(int kind) {
        int t = text();
        int at = place(t);
        int n = span(t, at);
        int u = below(3) == 0 ? text() : emptyText();
        switch (kind) {
            case 0:
                return below(4) == 0 ? writeSome() : putSome(t, at);
            case 1:
            case 2:
                return putSome(t, at);
            case 3:
                return same("cut " + t + " " + at + " " + n + " " + u,
                        () -> real.cut(t, at, n, u), () -> model.cut(t, at, n, u));
            case 4: {
                int v = text();
                return same("paste " + t + " " + at + " " + v,
                        () -> real.paste(t, at, v), () -> model.paste(t, at, v));
            }
            case 5:
                return same("copy " + t + " " + at + " " + n + " " + u,
                        () -> real.copy(t, at, n, u), () -> model.copy(t, at, n, u));
            case 6:
                return tagSome(t, at, n);
            default:
                return below(4) > 0 ? tagSome(t, at, n) : wipeSome();
        }
    }

    private boolean ask(int kind) {
        int t = text();
        int at = place(t);
        int u = text();
        int what = wild && below(6) == 0 ? below(8) - 2 : below(4);
        switch (kind) {
            case 0:
            case 1:
                return same("look " + t + " " + at + " " + what,
                        () -> real.look(t, at, what), () -> model.look(t, at, what));
            case 2:
            case 3: {
                int k = odd(below(2 + Math.max(0, model.count(2))));
                return same("piece " + t + " " + k + " " + what,
                        () -> real.piece(t, k, what), () -> model.piece(t, k, what));
            }
            case 4: {
                int c = odd(97 + below(4));
                return same("find " + t + " " + at + " " + c,
                        () -> real.find(t, at, c), () -> model.find(t, at, c));
            }
            case 5:
                return same("differ " + t + " " + u, () -> real.differ(t, u), () -> model.differ(t, u));
            case 6:
                return same("length " + t, () -> real.length(t), () -> model.length(t));
            default:
                return same("count " + what, () -> real.count(what), () -> model.count(what));
        }
    }

    /** Copies a whole text behind, into or before another one: how the limits are come by. */
    private boolean doubled() {
        int t = below(texts);
        int u = (t + 1 + below(texts - 1)) % texts;
        int n = model.length(t);
        int at = below(n + 1);
        return same("copy " + t + " 0 " + n + " " + u,
                        () -> real.copy(t, 0, n, u), () -> model.copy(t, 0, n, u))
                && same("paste " + t + " " + at + " " + u, () -> real.paste(t, at, u), () -> model.paste(t, at, u));
    }

    private boolean writeSome() {
        long s = 0;
        int n = wild ? below(9) : 1 + below(8);
        for (int i = 0; i < n; i++) {
            s = s << 8 | (below(12) == 0 ? 128 + below(128) : 97 + below(3));
        }
        long all = s;
        return same("write " + all, () -> real.write(all), () -> model.write(all));
    }

    /** Often bytes that go on where the left neighbour ends, or end where the right one begins. */
    private boolean putSome(int t, int at) {
        int n = odd(1 + below(4));
        int guess = below(Math.max(1, model.count(0)));
        int tag = below(3);
        int kind = below(4);
        int length = model.length(t);
        if (kind == 0 && at > 0 && at <= length) {
            guess = model.look(t, at - 1, 1) + 1;
            tag = model.look(t, at - 1, 2);
        } else if (kind == 1 && at >= 0 && at < length) {
            guess = model.look(t, at, 1) - n;
            tag = model.look(t, at, 2);
        }
        int from = odd(guess);
        int with = tag;
        return same("put " + t + " " + at + " " + from + " " + n + " " + with,
                () -> real.put(t, at, from, n, with), () -> model.put(t, at, from, n, with));
    }

    private boolean tagSome(int t, int at, int n) {
        int mask = below(3) == 0 ? -1 : below(4);
        int bits = below(4);
        return same("tag " + t + " " + at + " " + n + " " + mask + " " + bits,
                () -> real.tag(t, at, n, mask, bits), () -> model.tag(t, at, n, mask, bits));
    }

    private boolean wipeSome() {
        int t = text();
        if (crowded && model.length(t) > 20) {
            return true;
        }
        return same("wipe " + t, () -> real.wipe(t), () -> model.wipe(t));
    }

    private boolean same(String call, Check.Call ofReal, Check.Call ofModel) {
        String got = Check.answer(ofReal);
        String want = Check.answer(ofModel);
        calls++;
        told.add(call + " answered " + got + ", due is " + want);
        failed |= !want.equals(got);
        return want.equals(got);
    }

    private int text() {
        return wild && below(24) == 0 ? odd(below(2) == 0 ? 16 : -1) : below(texts);
    }

    private int emptyText() {
        int t = below(texts);
        for (int i = 0; i < texts && model.length(t) > 0; i++) {
            t = (t + 1) % texts;
        }
        return t;
    }

    private int place(int t) {
        return odd(below(Math.max(0, model.length(t)) + 1));
    }

    private int span(int t, int at) {
        int rest = Math.max(0, model.length(t) - Math.max(0, at));
        int n = below(3) == 0 ? rest : below(rest + 1);
        return odd(crowded ? Math.min(n, below(6)) : n);
    }

    /** Now and then, in wild runs, something that hardly fits. */
    private int odd(int plain) {
        if (!wild || below(24) != 0) {
            return plain;
        }
        int[] strange = {-1, plain + 1, -plain, Integer.MAX_VALUE, Integer.MIN_VALUE, Integer.MAX_VALUE - plain};
        return strange[below(strange.length)];
    }

    private int below(int n) {
        seed = seed * 6364136223846793005L + 1442695040888963407L;
        return (int) ((seed >>> 33) % n);
    }
}

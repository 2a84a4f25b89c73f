/** Compares answers with those that are due, and ends the test with exit code 1 if one is not. */
final class Check {
    static final String RANGE = "throws.IndexOutOfBoundsException";
    static final String ARGUMENT = "throws.IllegalArgumentException";
    static final String STATE = "throws.IllegalStateException";

    interface Call {
        int answer();
    }

    interface Request {
        int answer(PieceTexts x);
    }

    interface Maker {
        PieceTexts make();
    }

    /** A call that never ends is wrong too: no test takes more than some seconds. */
    private static final int MOST_SECONDS = 100;

    private int wrong;

    static {
        Thread watch = new Thread(Check::endLate);
        watch.setDaemon(true);
        watch.start();
    }

    private static void endLate() {
        try {
            Thread.sleep(MOST_SECONDS * 1000L);
        } catch (InterruptedException e) {
            return;
        }
        System.out.println("a call doesn't end");
        Runtime.getRuntime().halt(1);
    }

    /** The answer of a call, or the name of what it throws, exactly that class. */
    static String answer(Call call) {
        try {
            return Integer.toString(call.answer());
        } catch (RuntimeException e) {
            return "throws." + e.getClass().getSimpleName();
        }
    }

    void due(String what, String want, String got) {
        if (!want.equals(got)) {
            wrong++;
            System.out.println(what + " answered " + got + ", due is " + want);
        }
    }

    void due(String what, int want, Call call) {
        due(what, Integer.toString(want), answer(call));
    }

    /** On an object of its own, as one has 512 calls: the call throws this, and the object is as it was. */
    void refuses(Maker maker, String what, String want, Request request) {
        PieceTexts x = maker.make();
        String before = State.of(x);
        due(what, want, answer(() -> request.answer(x)));
        due("the state after " + what, before, State.of(x));
    }

    /** The same for big objects: each of their pieces is as it was. */
    void refusesWhole(Maker maker, String what, String want, Request request) {
        PieceTexts x = maker.make();
        due(what, want, answer(() -> request.answer(x)));
        alike("the state after " + what, State.whole(maker), State.whole(() -> asked(maker, request)));
    }

    private static PieceTexts asked(Maker maker, Request request) {
        PieceTexts x = maker.make();
        answer(() -> request.answer(x));
        return x;
    }

    /** Tells of two long texts only what is behind the place at which they part. */
    private void alike(String what, String want, String got) {
        int shared = 0;
        while (shared < want.length() && shared < got.length() && want.charAt(shared) == got.charAt(shared)) {
            shared++;
        }
        due(what, excerpt(want, shared), excerpt(got, shared));
    }

    private static String excerpt(String s, int from) {
        return s.substring(from, Math.min(s.length(), from + 80));
    }

    /** The call throws this, and as far as a few calls tell, the full object is as it was. */
    void refusesFull(PieceTexts x, String what, String want, Call call) {
        String before = State.inShort(x);
        due(what, want, answer(call));
        due("the state after " + what, before, State.inShort(x));
    }

    void row(PieceTexts x, int t, String want) {
        due("the row of text " + t, want, State.row(x, t));
    }

    void end() {
        if (wrong != 0) {
            System.out.println(wrong + " answers are not as due");
            System.exit(1);
        }
    }
}

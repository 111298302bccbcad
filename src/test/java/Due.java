/** Compares answers with those that are due, and ends a test with exit code 1 if one differed. */
final class Due {
    static final long NO_PROOF = 1L << 40;
    static final int MIN = Integer.MIN_VALUE;
    static final int MAX = Integer.MAX_VALUE;

    /** Far more than any test needs: a call that never ends has to fail its test, not to hold it up. */
    private static final long MOST_MILLISECONDS = 300_000;

    private int wrong = 0;
    private int asked = 0;

    Due() {
        Thread watch = new Thread(Due::endLate);
        watch.setDaemon(true);
        watch.start();
    }

    private static void endLate() {
        try {
            Thread.sleep(MOST_MILLISECONDS);
        } catch (InterruptedException e) {
            return;
        }
        System.out.println("a call doesn't end");
        Runtime.getRuntime().halt(1);
    }

    /** A new run for a sentence of a promise. */
    Run promise(int number, String words) {
        return new Run(this, "Promise " + number, words);
    }

    /** A new run for a sentence of the terms. */
    Run term(String words) {
        return new Run(this, "Terms", words);
    }

    void is(String call, long got, long want) {
        asked++;
        if (got != want) {
            wrong++;
            System.out.println(call + " answered " + got + ", due is " + want);
        }
    }

    void is(String call, boolean got, boolean want) {
        is(call, got ? 1 : 0, want ? 1 : 0);
    }

    void is(String call, String got, String want) {
        asked++;
        if (!got.equals(want)) {
            wrong++;
            System.out.println(call + " answered " + got + ", due is " + want);
        }
    }

    void end() {
        System.out.println(asked + " answers, " + wrong + " of them wrong");
        if (wrong != 0) {
            System.exit(1);
        }
    }

    /** A board whose table is closed without anything in it. */
    static CallBoard closedBoard() {
        CallBoard board = new CallBoard();
        board.close();
        return board;
    }

    /** Makes and lays a handler of a function with one place; answers its number. */
    static int lay(CallBoard board, int f, int action, int value, int code, int low, int high) {
        int h = board.handler(f, action, value, false);
        board.place(h, 0, code);
        board.test(h, 0, low, high);
        board.lay(h);
        return h;
    }

    /** As lay, of a handler that takes any weight. */
    static int lay(CallBoard board, int f, int action, int value, int code) {
        return lay(board, f, action, value, code, MIN, MAX);
    }

    /** Makes and lays a handler of a function with two places that takes any weights. */
    static int layTwo(CallBoard board, int f, int action, int value, int code0, int code1) {
        int h = board.handler(f, action, value, false);
        board.place(h, 0, code0);
        board.place(h, 1, code1);
        board.lay(h);
        return h;
    }

    /** Makes and lays a handler around others, with one place. */
    static int layAround(CallBoard board, int f, int value, int code, int low, int high) {
        int h = board.handler(f, 0, value, true);
        board.place(h, 0, code);
        board.test(h, 0, low, high);
        board.lay(h);
        return h;
    }
}

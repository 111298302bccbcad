/** Made-up runs of calls on the program and on the model: all answers must be the same. */
public final class ModelTest {
    private static final int RUNS = 400;
    private static final int CALLS = 500;
    private static final int[] ODD = {Due.MIN, Due.MIN + 1, -2, -1, 4, 8, 16, 40, 300, Due.MAX - 1, Due.MAX};

    private final Due due = new Due();
    private CallBoard board;
    private Model model;
    private long seed;
    private int run;
    private int spread;

    public static void main(String[] args) {
        ModelTest test = new ModelTest();
        for (int run = 0; run < RUNS; run++) {
            test.oneRun(run);
        }
        test.due.end();
    }

    /** A number from 0 on below a bound, the same in every run of the test. */
    private int below(int bound) {
        seed = seed * 6364136223846793005L + 1442695040888963407L;
        return (int) ((seed >>> 33) % bound);
    }

    private boolean oneOf(int bound) {
        return below(bound) == 0;
    }

    private int number(int from, int to) {
        return oneOf(60) ? ODD[below(ODD.length)] : from + below(to - from + 1);
    }

    private int weight() {
        return oneOf(12) ? ODD[below(ODD.length)] : below(spread) - spread / 3;
    }

    private void same(String call, long got, long want) {
        due.is("run " + run + ": " + call, got, want);
    }

    private void same(String call, boolean got, boolean want) {
        due.is("run " + run + ": " + call, got, want);
    }

    private void oneRun(int number) {
        run = number;
        seed = number * 7919L + 1;
        spread = oneOf(3) ? 1000 : 3 + below(20);
        board = new CallBoard();
        model = new Model();
        for (int i = below(25); i > 0; i--) {
            tableCall();
        }
        same("close()", board.close(), model.close());
        if (model.count(-1, 2) == 0) {
            mendParents();
            same("close() mended", board.close(), model.close());
        }
        for (int i = 0; i < CALLS; i++) {
            anyCall();
        }
        tellAll();
    }

    private void mendParents() {
        for (int c = 0; c < 12; c++) {
            int p = below(c + 1) - 1;
            same("parent", board.parent(c, p), model.parent(c, p));
        }
    }

    private void tableCall() {
        int c = number(0, 11);
        int d = number(-1, 11);
        int t = number(12, 15);
        int u = number(12, 15);
        switch (below(5)) {
            case 0:
            case 1:
                int p = oneOf(5) ? d : Math.min(c - 1, d);
                same("parent(" + c + ", " + p + ")", board.parent(c, p), model.parent(c, p));
                break;
            case 2:
                int above = oneOf(40) ? u : Math.max(t, u);
                int under = Math.min(t, u);
                if (above != under || oneOf(30)) {
                    same("trait(" + under + ", " + above + ")", board.trait(under, above), model.trait(under, above));
                }
                break;
            case 3:
                same("has(" + c + ", " + t + ")", board.has(c, t), model.has(c, t));
                break;
            default:
                same("flag(" + c + ")", board.flag(c), model.flag(c));
        }
    }

    private void anyCall() {
        int kind = below(100);
        if (kind < 6) {
            int c = number(0, 11);
            int w = weight();
            same("sample(" + c + ", " + w + ")", board.sample(c, w), model.sample(c, w));
        } else if (kind < 8) {
            int places = number(1, 2);
            same("function(" + places + ")", board.function(places), model.function(places));
        } else if (kind < 40) {
            handlerCall();
        } else if (kind < 50) {
            int i = number(0, 1);
            int s = number(0, Math.max(0, board.samples() - 1));
            same("arg(" + i + ", " + s + ")", board.arg(i, s), model.arg(i, s));
        } else if (kind < 80) {
            callAndTell();
        } else if (kind < 98) {
            question();
        } else if (kind < 99) {
            tableCall();
        } else {
            same("close()", board.close(), model.close());
        }
    }

    private void handlerCall() {
        int h = number(0, Math.max(0, board.count(-1, 1) - 1));
        int newest = oneOf(3) ? h : Math.max(0, board.count(-1, 1) - 1);
        int f = number(0, Math.max(0, board.count(-1, 0) - 1));
        switch (below(11)) {
            case 0:
            case 1:
                int action = number(0, 7);
                int value = weight();
                boolean around = oneOf(4);
                same("handler(" + f + ", " + action + ", " + value + ", " + around + ")",
                    board.handler(f, action, value, around), model.handler(f, action, value, around));
                break;
            case 2:
            case 3:
            case 4:
                int i = number(0, 1);
                int code = number(-1, 15);
                same("place(" + newest + ", " + i + ", " + code + ")",
                    board.place(newest, i, code), model.place(newest, i, code));
                break;
            case 5:
            case 6:
                int at = number(0, 1);
                int one = weight();
                int two = weight();
                int low = oneOf(9) ? one : Math.min(one, two);
                int high = oneOf(9) ? two : Math.max(one, two);
                same("test(" + newest + ", " + at + ", " + low + ", " + high + ")",
                    board.test(newest, at, low, high), model.test(newest, at, low, high));
                break;
            case 7:
            case 8:
                same("lay(" + newest + ")", board.lay(newest), model.lay(newest));
                break;
            case 9:
                if (oneOf(2)) {
                    same("lift(" + h + ")", board.lift(h), model.lift(h));
                }
                break;
            default:
                boolean on = oneOf(5);
                same("freeze(" + f + ", " + on + ")", board.freeze(f, on), model.freeze(f, on));
        }
    }

    private void callAndTell() {
        int f = number(0, Math.max(0, board.count(-1, 0) - 1));
        same("call(" + f + ")", board.call(f), model.call(f));
        same("value()", board.value(), model.value());
        same("failure()", board.failure(), model.failure());
        for (int k = -1; k <= model.count(-1, 3); k++) {
            same("step(" + k + ")", board.step(k), model.step(k));
        }
        for (int what = -1; what <= 5; what++) {
            same("count(-1, " + what + ")", board.count(-1, what), model.count(-1, what));
            same("count(" + f + ", " + what + ")", board.count(f, what), model.count(f, what));
        }
    }

    private void question() {
        int f = number(0, Math.max(0, board.count(-1, 0) - 1));
        int h = number(0, Math.max(0, board.count(-1, 1) - 1));
        int g = number(0, Math.max(0, board.count(-1, 1) - 1));
        int k = number(0, 5);
        switch (below(8)) {
            case 0:
                same("about(" + h + ", " + k + ")", board.about(h, k), model.about(h, k));
                same("dominates(" + h + ", " + g + ")", board.dominates(h, g), model.dominates(h, g));
                break;
            case 1:
                same("order(" + f + ", " + k + ")", board.order(f, k), model.order(f, k));
                break;
            case 2:
                same("applicable(" + f + ", " + k + ")", board.applicable(f, k), model.applicable(f, k));
                same("most(" + f + ")", board.most(f), model.most(f));
                break;
            case 3:
            case 4:
                same("explain(" + h + ")", board.explain(h), model.explain(h));
                same("where()", board.where(), model.where());
                break;
            case 5:
                int s = number(0, 20);
                int what = number(0, 1);
                same("of(" + s + ", " + what + ")", board.of(s, what), model.of(s, what));
                same("counter(" + k + ")", board.counter(k), model.counter(k));
                same("below(" + h + ", " + g + ")", board.below(h, g), model.below(h, g));
                break;
            default:
                if (oneOf(6)) {
                    proofs(f, number(0, 3));
                }
        }
    }

    private void proofs(int f, int k) {
        same("covered(" + f + ")", board.covered(f), model.covered(f));
        int what = number(0, 5);
        same("hole(" + f + ", " + what + ")", board.hole(f, what), model.hole(f, what));
        same("doubt(" + f + ", " + k + ", " + what + ")", board.doubt(f, k, what), model.doubt(f, k, what));
    }

    /** Everything that can be asked at the end of a run. */
    private void tellAll() {
        same("samples()", board.samples(), model.samples());
        for (int x = -1; x <= 16; x++) {
            for (int y = -1; y <= 16; y++) {
                same("below(" + x + ", " + y + ")", board.below(x, y), model.below(x, y));
            }
        }
        for (int h = 0; h < 40; h++) {
            for (int what = -1; what <= 11; what++) {
                same("about(" + h + ", " + what + ")", board.about(h, what), model.about(h, what));
            }
            for (int g = 0; g < 40; g++) {
                same("dominates(" + h + ", " + g + ")", board.dominates(h, g), model.dominates(h, g));
            }
            same("explain(" + h + ")", board.explain(h), model.explain(h));
            same("where()", board.where(), model.where());
        }
        for (int f = 0; f < 4; f++) {
            for (int k = -1; k <= 8; k++) {
                same("order(" + f + ", " + k + ")", board.order(f, k), model.order(f, k));
                same("applicable(" + f + ", " + k + ")", board.applicable(f, k), model.applicable(f, k));
            }
            same("most(" + f + ")", board.most(f), model.most(f));
            for (int what = 0; what < 4; what++) {
                same("hole(" + f + ", " + what + ")", board.hole(f, what), model.hole(f, what));
            }
            for (int what = 0; what < 6; what++) {
                same("doubt(" + f + ", 0, " + what + ")", board.doubt(f, 0, what), model.doubt(f, 0, what));
                same("doubt(" + f + ", 2, " + what + ")", board.doubt(f, 2, what), model.doubt(f, 2, what));
            }
        }
        for (int k = 0; k < 8; k++) {
            same("counter(" + k + ")", board.counter(k), model.counter(k));
        }
    }
}

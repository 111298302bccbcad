import java.util.ArrayList;
import java.util.List;

/** Made-up runs of calls on the program and on the model: all answers must be the same. */
public final class ModelTest {
    private static final int RUNS = 600;
    private static final int CALLS = 440;
    private static final int[] ODD = {Due.MIN, Due.MIN + 1, -2, -1, 4, 8, 16, 40, 300, Due.MAX - 1, Due.MAX};

    private final Due due = new Due();
    private CallBoard board;
    private Model model;
    private List<Call> calls;
    private List<String> questions;
    private long seed;
    private int run;
    private int spread;
    private int classes;

    public static void main(String[] args) {
        ModelTest test = new ModelTest();
        for (int run = 0; run < RUNS; run++) {
            test.oneRun(run);
        }
        test.due.end();
    }

    /** A number from 0 on below a bound, the same in every run of the test. */
    private int below(int bound) {
        seed = seed * 6364136223846793005L + 1442695040888963407L;
        return (int) ((seed >>> 33) % bound);
    }

    private boolean oneOf(int bound) {
        return below(bound) == 0;
    }

    private int number(int from, int to) {
        return oneOf(60) ? ODD[below(ODD.length)] : from + below(to - from + 1);
    }

    private int weight() {
        return oneOf(12) ? ODD[below(ODD.length)] : below(spread) - spread / 3;
    }

    /** A run uses few classes, so that handlers have something to do with one another. */
    private int someClass() {
        return number(0, classes - 1);
    }

    private int code() {
        return oneOf(2) ? -1 : oneOf(4) ? number(12, 15) : someClass();
    }

    private int someFunction() {
        return number(0, Math.max(0, model.count(-1, 0) - 1));
    }

    private int someHandler() {
        return number(0, Math.max(0, model.count(-1, 1) - 1));
    }

    /** Makes a call, told by its name and numbers, on both. */
    private void same(String name, Object... given) {
        StringBuilder text = new StringBuilder(name).append('(');
        for (int i = 0; i < given.length; i++) {
            text.append(i == 0 ? "" : ", ").append(given[i]);
        }
        Call call = Call.read(text.append(')').toString());
        calls.add(call);
        due.is("run " + run + ": " + call, call.on(board), call.on(model));
    }

    private void oneRun(int number) {
        run = number;
        seed = number * 7919L + 1;
        spread = oneOf(3) ? 1000 : 3 + below(20);
        board = new CallBoard();
        model = new Model();
        calls = new ArrayList<>();
        classes = 2 + below(11);
        for (int c = classes; c < 12 && classes < 8; c++) {
            same("flag", c);
        }
        for (int i = below(6 * classes); i > 0; i--) {
            tableCall();
        }
        same("close");
        if (model.count(-1, 2) == 0) {
            mendParents();
            same("close");
        }
        for (int i = below(1 + below(4)); i >= 0; i--) {
            same("function", number(1, 2));
        }
        while (calls.size() < CALLS) {
            anyCall();
        }
        tellAll();
    }

    private void mendParents() {
        for (int c = 0; c < 12; c++) {
            same("parent", c, below(c + 1) - 1);
        }
    }

    private void tableCall() {
        int c = someClass();
        int d = number(-1, classes - 1);
        int t = number(12, 15);
        int u = number(12, 15);
        switch (below(9)) {
            case 0:
            case 1:
            case 2:
            case 3:
                same("parent", c, oneOf(5) ? d : Math.min(c - 1, d));
                break;
            case 4:
                int above = oneOf(40) ? u : Math.max(t, u);
                int under = Math.min(t, u);
                if (above != under || oneOf(30)) {
                    same("trait", under, above);
                }
                break;
            case 5:
            case 6:
            case 7:
                same("has", c, t);
                break;
            default:
                if (oneOf(2)) {
                    same("flag", c);
                }
        }
    }

    private void anyCall() {
        int kind = below(100);
        if (kind < 1) {
            same("function", number(1, 2));
        } else if (kind < 16) {
            newHandler();
        } else if (kind < 30) {
            handlerCall();
        } else if (kind < 48) {
            tell();
        } else if (kind < 68) {
            callAndTell();
        } else if (kind < 98) {
            question();
        } else if (kind < 99) {
            tableCall();
        } else {
            same("close");
        }
    }

    private void newHandler() {
        same("handler", someFunction(), number(0, 7), weight(), oneOf(5));
        int h = Math.max(0, model.count(-1, 1) - 1);
        for (int i = 0; i < 2; i++) {
            same("place", h, i, code());
            if (oneOf(3)) {
                range(h, i);
            }
        }
        same("lay", h);
    }

    private void range(int h, int i) {
        int one = weight();
        int two = weight();
        same("test", h, i, oneOf(20) ? one : Math.min(one, two), oneOf(20) ? two : Math.max(one, two));
    }

    private void tell() {
        if (model.samples() < 6 || oneOf(4)) {
            same("sample", someClass(), weight());
        }
        same("arg", number(0, 1), number(0, Math.max(0, model.samples() - 1)));
    }

    private void handlerCall() {
        int h = someHandler();
        int newest = oneOf(3) ? h : Math.max(0, model.count(-1, 1) - 1);
        switch (below(7)) {
            case 0:
                same("handler", someFunction(), number(0, 7), weight(), oneOf(4));
                break;
            case 1:
                same("place", newest, number(0, 1), code());
                break;
            case 2:
                range(newest, number(0, 1));
                break;
            case 3:
                same("lay", newest);
                break;
            case 4:
            case 5:
                same("lift", h);
                break;
            default:
                same("freeze", someFunction(), oneOf(5));
        }
    }

    private void callAndTell() {
        int f = someFunction();
        same("call", f);
        same("value");
        same("failure");
        int steps = model.count(-1, 3);
        for (int k = -1; k <= steps && k < 8; k++) {
            same("step", k);
        }
        same("step", steps - 1);
        for (int what = 3; what <= 4; what++) {
            same("count", -1, what);
            same("count", f, what);
        }
    }

    private void question() {
        int f = someFunction();
        int k = number(0, 5);
        switch (below(8)) {
            case 0:
                same("about", someHandler(), number(0, 10));
                same("dominates", someHandler(), someHandler());
                break;
            case 1:
                same("order", f, k);
                break;
            case 2:
                same("applicable", f, k);
                same("most", f);
                break;
            case 3:
            case 4:
                same("explain", someHandler());
                same("where");
                break;
            case 5:
                same("of", number(0, 20), number(0, 1));
                same("counter", k);
                same("below", number(0, 15), number(0, 15));
                break;
            default:
                if (oneOf(3)) {
                    same("covered", f);
                    same("hole", f, number(0, 3));
                    same("doubt", f, number(0, 2), k);
                }
        }
    }

    /** Asks everything at the end of a run, on as many boards as are needed for it. */
    private void tellAll() {
        questions = new ArrayList<>();
        askAboutTable();
        askAboutHandlers();
        askAboutFunctions();
        int room = Run.MOST_CALLS - calls.size();
        for (int from = 0; from < questions.size(); from += room) {
            CallBoard fresh = Run.playAll(calls);
            for (String question : questions.subList(from, Math.min(from + room, questions.size()))) {
                Call call = Call.read(question);
                due.is("at the end of run " + run + ": " + question, call.on(fresh), call.on(model));
            }
        }
    }

    private void askAboutTable() {
        for (int x = -1; x <= 16; x++) {
            for (int y = -1; y <= 16; y++) {
                questions.add("below(" + x + ", " + y + ")");
            }
        }
        questions.add("samples()");
        for (int s = 0; s <= model.samples(); s++) {
            questions.add("of(" + s + ", 0)");
            questions.add("of(" + s + ", 1)");
        }
        for (int k = -1; k <= 8; k++) {
            questions.add("counter(" + k + ")");
        }
    }

    private void askAboutHandlers() {
        int handlers = model.count(-1, 1);
        for (int h = 0; h <= handlers; h++) {
            for (int what = -1; what <= 11; what++) {
                questions.add("about(" + h + ", " + what + ")");
            }
            for (int g = 0; g <= handlers; g++) {
                questions.add("dominates(" + h + ", " + g + ")");
            }
        }
        questions.add("where()");
        for (int h = 0; h <= handlers; h++) {
            questions.add("explain(" + h + ")");
        }
    }

    private void askAboutFunctions() {
        for (int f = -1; f <= 4; f++) {
            for (int k = -1; k <= 8; k++) {
                questions.add("order(" + f + ", " + k + ")");
                questions.add("applicable(" + f + ", " + k + ")");
            }
            for (int what = -1; what <= 6; what++) {
                questions.add("count(" + f + ", " + what + ")");
                questions.add("hole(" + f + ", " + what + ")");
                questions.add("doubt(" + f + ", 0, " + what + ")");
            }
            questions.add("doubt(" + f + ", 1, 1)");
            questions.add("doubt(" + f + ", 3, 5)");
            questions.add("most(" + f + ")");
            questions.add("covered(" + f + ")");
        }
    }
}

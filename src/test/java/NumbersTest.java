import java.util.ArrayList;
import java.util.List;

/** Every call with numbers that are ends of something, on boards that are new, open, closed, busy and full. */
public final class NumbersTest {
    private static final String[] NUMBERS = {"MIN", "-2147483647", "-40", "-3", "-2", "-1", "0", "1", "2", "3", "4", "5", "6", "7", "8",
        "10", "11", "12", "15", "16", "17", "28", "39", "40", "299", "300", "1000", "65536", "2147483646", "MAX"};
    private static final String[] FEW = {"MIN", "-1", "0", "1", "MAX"};
    private static final String[] BOTH = {"false", "true"};

    private final Due due = new Due();
    private final List<String> made = new ArrayList<>();
    private CallBoard board;
    private Model model;
    private String state;
    private int left;

    public static void main(String[] args) {
        NumbersTest test = new NumbersTest();
        test.due.is("the words stand in the document",
            Document.says("Terms", "Of several refusals that a call names the first one named is answered."), true);
        test.everyCall("new");
        test.openBoard();
        test.everyCall("open");
        test.made.clear();
        test.made.add("close()");
        test.everyCall("closed");
        test.busyBoard();
        test.everyCall("busy");
        test.fullBoard();
        test.everyCall("full");
        test.due.end();
    }

    private void makes(String... texts) {
        made.addAll(List.of(texts));
    }

    private void openBoard() {
        made.clear();
        makes("parent(1, 0)", "parent(0, 2)", "parent(2, 1)", "trait(12, 15)", "has(11, 12)", "flag(11)", "close()");
    }

    /** Handlers of all kinds and in all states; each function has been called. */
    private void busyBoard() {
        made.clear();
        makes("parent(1, 0)", "parent(11, 1)", "has(1, 12)", "trait(12, 15)", "flag(2)", "flag(10)", "close()");
        makes("function(1)", "function(2)", "sample(1, 0)", "sample(11, MAX)", "sample(0, MIN)", "arg(0, 0)", "arg(1, 1)");
        for (int h = 0; h < 16; h++) {
            makes("handler(" + h % 2 + ", " + h % 8 + ", " + (h - 2) + ", " + (h % 5 == 4) + ")");
            makes("place(" + h + ", 0, " + (h % 3 == 0 ? "-1" : h % 3 == 1 ? "12" : "1") + ")");
            makes("test(" + h + ", 0, " + (h - 9) + ", " + 2 * h + ")", "lay(" + h + ")");
        }
        makes("handler(1, 0, 0, false)", "lift(3)", "lift(4)", "call(0)", "call(1)", "call(0)", "explain(0)");
    }

    private void fullBoard() {
        made.clear();
        makes("parent(1, 0)", "close()", "function(1)", "function(2)", "function(1)", "function(2)");
        for (int h = 0; h < 40; h++) {
            makes("handler(" + h % 4 + ", " + h % 8 + ", " + h + ", " + (h % 3 == 0) + ")");
        }
        for (int h = 0; h < 36; h += 3) {
            makes("test(" + h + ", 0, 0, " + h + ")", "lay(" + h + ")");
        }
        for (int s = 0; s < 300; s++) {
            makes("sample(" + s % 2 + ", " + s + ")");
        }
        makes("arg(0, 299)", "arg(1, 0)", "freeze(3, true)", "call(0)");
    }

    /** No board is asked more often than one has to answer; each name has the board as it was made. */
    private void begin() {
        board = new CallBoard();
        model = new Model();
        for (String text : made) {
            Call.read(text).on(board);
            Call.read(text).on(model);
        }
        left = Run.MOST_CALLS - made.size();
    }

    private void same(String text) {
        if (left == 0) {
            begin();
        }
        left--;
        Call call = Call.read(text);
        due.is(state + " board: " + text, call.on(board), call.on(model));
    }

    private void everyCall(String name) {
        state = name;
        each("close", "samples", "value", "failure", "where");
        each(NUMBERS, "flag", "function", "lay", "lift", "call", "step", "counter", "most", "explain", "covered");
        each(NUMBERS, NUMBERS, "parent", "trait", "has", "below", "sample", "of", "about", "dominates", "order", "arg",
            "applicable", "count", "hole");
        each(NUMBERS, BOTH, "freeze");
        for (String number : NUMBERS) {
            each(prefixed(number, NUMBERS), NUMBERS, "place");
            each(prefixed(number, NUMBERS), joined(FEW, FEW), "test");
            each(prefixed(number, NUMBERS), joined(FEW, BOTH), "handler");
            each(prefixed(number, NUMBERS), FEW, "doubt");
            each(prefixed(number, FEW), NUMBERS, "doubt");
        }
    }

    private void each(String... names) {
        for (String name : names) {
            begin();
            same(name + "()");
        }
    }

    private void each(String[] numbers, String... names) {
        for (String name : names) {
            begin();
            for (String number : numbers) {
                same(name + "(" + number + ")");
            }
        }
    }

    private void each(String[] firsts, String[] seconds, String... names) {
        for (String name : names) {
            begin();
            for (String first : firsts) {
                for (String second : seconds) {
                    same(name + "(" + first + ", " + second + ")");
                }
            }
        }
    }

    private static String[] joined(String[] firsts, String[] seconds) {
        List<String> all = new ArrayList<>();
        for (String first : firsts) {
            all.addAll(List.of(prefixed(first, seconds)));
        }
        return all.toArray(new String[0]);
    }

    private static String[] prefixed(String first, String[] seconds) {
        String[] all = new String[seconds.length];
        for (int i = 0; i < seconds.length; i++) {
            all[i] = first + ", " + seconds[i];
        }
        return all;
    }
}

/** The edges of promises 21 to 26 and of part 3 of the terms: a method for each sentence. */
public final class CallEdgeTest {
    private static final Due due = new Due();
    private static final String[] NO_FUNCTIONS = {"-1", "2", "3", "4", "MIN", "MAX"};
    private static final int VALUE = 0;
    private static final int NONE = 1;
    private static final int DOUBT = 2;
    private static final int FAILED = 3;
    private static final int DEEP = 4;
    private static final int BARRED = 5;

    public static void main(String[] args) {
        argTold();
        argNumber();
        argPlaces();
        callNumber();
        callState();
        callDeep();
        callDeepOfFewer();
        aroundInOrder();
        aroundBarred();
        aroundBarredAsLong();
        aroundOnlyTakers();
        aroundAheadOfNone();
        callNone();
        callDoubt();
        actionGive();
        actionWeigh();
        actionPassOn();
        actionPassOnDoubt();
        actionPassOnAmong();
        valuesAreLongs();
        actionFail();
        actionCountUp();
        actionBringSample();
        actionBringWrapping();
        actionBringFull();
        actionCall();
        actionCallMissing();
        actionCallTurned();
        outcomesGoOut();
        countersStay();
        valueOfLatest();
        failureOfLatest();
        stepOfLatest();
        stepsAll();
        counterNone();
        lastCallOfAll();
        due.end();
    }

    /** A closed table without anything, and functions of as many places. */
    private static Run with(Run x, int... places) {
        x.does("close()");
        for (int count : places) {
            x.does("function(" + count + ")");
        }
        return x;
    }

    private static void steps(Run x, int... want) {
        for (int k = 0; k < want.length; k++) {
            x.is("step(" + k + ")", want[k]);
        }
        x.is("step(" + want.length + ")", -1);
        x.is("count(-1, 3)", want.length);
    }

    private static void value(Run x, int f, long want) {
        x.is("call(" + f + ")", VALUE);
        x.is("value()", want);
        x.is("failure()", 0);
    }

    private static void failure(Run x, int f, int want) {
        x.is("call(" + f + ")", FAILED);
        x.is("failure()", want);
        x.is("value()", 0);
    }

    private static void noValue(Run x, int f, int outcome) {
        x.is("call(" + f + ")", outcome);
        x.is("value()", 0);
        x.is("failure()", 0);
    }

    // ---- promise 21

    private static void argTold() {
        Run x = with(due.promise(21, "SAMPLE s is what the next calls have at a PLACE (0, 1): 1."), 1, 2);
        x.lays(0, 1, 0, false, "-1");
        x.lays(1, 1, 0, false, "-1", "-1");
        x.does("sample(0, 3)", "sample(0, 40)", "sample(0, 500)");
        x.is("arg(0, 0)", 1);
        value(x, 0, 3);
        value(x, 0, 3);
        x.is("arg(1, 2)", 1);
        value(x, 1, 503);
        value(x, 0, 3);
        x.is("arg(0, 1)", 1);
        x.is("arg(0, 1)", 1);
        value(x, 1, 540);
        x.is("arg(1, 1)", 1);
        value(x, 1, 80);
    }

    private static void argNumber() {
        Run x = with(due.promise(21, "NUMBER: i isn't 0, 1, or there is no such SAMPLE."), 2);
        x.lays(0, 1, 0, false, "-1", "-1");
        x.refused("arg(0, 0)", CallBoard.NUMBER);
        x.refused("arg(1, 0)", CallBoard.NUMBER);
        x.does("sample(0, 3)", "sample(0, 40)");
        x.all(1, "arg(0, 0)", "arg(1, 1)");
        for (String i : new String[] {"-1", "2", "3", "MIN", "MAX"}) {
            x.refused("arg(" + i + ", 1)", CallBoard.NUMBER);
        }
        for (String s : new String[] {"-1", "2", "3", "299", "300", "MIN", "MAX"}) {
            x.refused("arg(0, " + s + ")", CallBoard.NUMBER);
            x.refused("arg(1, " + s + ")", CallBoard.NUMBER);
        }
        value(x, 0, 43);
    }

    private static void argPlaces() {
        Run x = due.promise(21, "or there is no such SAMPLE.");
        x.refused("arg(0, 0)", CallBoard.NUMBER);
        x.does("close()");
        for (int s = 0; s < 300; s++) {
            x.does("sample(0, " + s + ")");
        }
        x.all(1, "arg(0, 299)", "arg(1, 299)");
        x.refused("arg(0, 300)", CallBoard.NUMBER);
        // The samples were told ahead of the function.
        x.does("function(2)");
        x.lays(0, 1, 0, false, "-1", "-1");
        value(x, 0, 598);
    }

    // ---- promise 22

    private static void callNumber() {
        Run x = with(due.promise(22, "NUMBER: there is no such FUNCTION"));
        x.refused("call(0)", CallBoard.NUMBER);
        x.does("function(1)", "function(1)");
        x.lays(1, 0, 7, false, "-1");
        x.tells(0, 0, 0);
        value(x, 1, 7);
        for (String f : NO_FUNCTIONS) {
            x.refused("call(" + f + ")", CallBoard.NUMBER);
        }
        x.does("function(1)", "function(1)");
        x.is("call(3)", NONE);
        x.refused("call(4)", CallBoard.NUMBER);
    }

    private static void callState() {
        Run x = with(due.promise(22, "STATE: at one of its PLACES no SAMPLE was told."), 1, 2);
        x.lays(0, 0, 7, false, "-1");
        x.lays(1, 0, 8, false, "-1", "-1");
        x.does("sample(0, 1)");
        x.refused("call(0)", CallBoard.STATE);
        x.refused("call(1)", CallBoard.STATE);
        x.is("call(2)", CallBoard.NUMBER);
        Run first = x.again();
        first.does("arg(0, 0)");
        value(first, 0, 7);
        first.refused("call(1)", CallBoard.STATE);
        first.does("arg(1, 0)");
        value(first, 1, 8);
        Run second = x.again();
        second.does("arg(1, 0)");
        second.refused("call(0)", CallBoard.STATE);
        second.refused("call(1)", CallBoard.STATE);
        second.does("arg(0, 0)");
        value(second, 1, 8);
    }

    // ---- part 3: CALLS

    private static void callDeep() {
        Run x = with(due.term("if it is the 13th that stands within one another: DEEP."), 1, 1);
        x.tells(0, 0, 9);
        x.lays(0, 6, 1, false, "-1");
        x.lays(1, 6, 0, false, "-1");
        x.lays(0, 0, 0, true, "-1");
        noValue(x, 0, DEEP);
        // The 13th has no steps and doesn't come to choosing.
        steps(x, 2, 0, 1, 2, 0, 1, 2, 0, 1, 2, 0, 1, 2, 0, 1, 2, 0, 1);
        x.is("count(-1, 4)", 12);
        x.is("count(0, 3)", 5);
        x.is("count(1, 3)", 5);
        noValue(x, 1, DEEP);
        x.is("count(0, 3)", 11);
        x.is("count(-1, 4)", 12);
        Run turned = with(due.term("if it is the 13th that stands within one another: DEEP."), 1);
        turned.tells(0, 0, 0);
        turned.lays(0, 7, 0, false, "-1");
        noValue(turned, 0, DEEP);
        steps(turned, 0, 0, 0, 0, 0, 0, 0, 0, 0, 0, 0, 0);
    }

    /** Four functions and two turns are the most calls that stand within one another and have an end. */
    private static void callDeepOfFewer() {
        Run x = with(due.term("if it is the 13th that stands within one another: DEEP."), 2, 2, 2, 2);
        x.tells(0, 0, 0);
        x.tells(1, 1, 0);
        for (int f = 0; f < 4; f++) {
            x.lays(f, f == 3 ? 7 : 6, f + 1, false, "0", "1");
            x.lays(f, f == 3 ? 0 : 6, f == 3 ? 1000 : f + 1, false, "1", "0");
        }
        value(x, 0, 1007);
        x.is("count(-1, 4)", 8);
        steps(x, 0, 2, 4, 6, 1, 3, 5, 7);
    }

    private static void aroundInOrder() {
        Run x = due.term("AROUND and TAKE the row are gone over in ORDER (part 5): each is a STEP");
        x.does("parent(1, 0)", "parent(2, 1)", "close()", "function(1)");
        x.tells(0, 2, 10);
        int any = x.lays(0, 0, 0, true, "-1");
        int zero = x.lays(0, 0, 0, true, "0");
        int two = x.lays(0, 0, 0, true, "2");
        int one = x.lays(0, 0, 0, true, "1");
        int plain = x.lays(0, 0, 5, false, "-1");
        value(x, 0, 5);
        steps(x, two, one, zero, any, plain);
        x.does("lift(" + one + ")");
        value(x, 0, 5);
        steps(x, two, zero, any, plain);
        // The order is that of all laid ones: one that isn't around may hold back one that is.
        Run held = with(due.term("ORDER of a FUNCTION: its LAID HANDLERS"), 1);
        held.tells(0, 0, 10);
        int wide = held.lays(0, 0, 0, true, "-1 0 20");
        int late = held.lays(0, 0, 0, true, "-1 5 30");
        int within = held.lays(0, 0, 6, false, "-1 5 20");
        value(held, 0, 6);
        steps(held, wide, late, within);
        held.lays(0, 0, 7, false, "-1 0 4");
        value(held, 0, 6);
        steps(held, late, wide, within);
    }

    private static void barred(Run x, int value, boolean want) {
        Run y = x.again();
        int around = y.lays(0, 0, value, true, "-1");
        if (want) {
            noValue(y, 0, BARRED);
            steps(y, around);
            y.is("count(0, 4)", 0);
        } else {
            value(y, 0, 5);
            steps(y, around, 0);
        }
        y.is("count(-1, 4)", 1);
    }

    private static void aroundBarred() {
        String words = "are below its VALUE, the CALL is BARRED.";
        int[] weights = {10, 0, -10, Due.MIN, Due.MAX};
        for (int weight : weights) {
            Run x = with(due.term(words), 1);
            x.lays(0, 0, 5, false, "-1");
            x.tells(0, 0, weight);
            barred(x, weight, false);
            if (weight < Due.MAX) {
                barred(x, weight + 1, true);
            }
            if (weight > Due.MIN) {
                barred(x, weight - 1, false);
            }
            barred(x, Due.MIN, false);
            barred(x, Due.MAX, weight < Due.MAX);
        }
        Run x = with(due.term("if the WEIGHTS of the row together (as a long) are below its VALUE, the CALL is BARRED."), 1);
        x.tells(0, 0, 10);
        x.lays(0, 0, 10, true, "0");
        x.lays(0, 0, 11, true, "-1 0 20");
        x.lays(0, 0, 12, true, "-1");
        x.lays(0, 4, 0, false, "-1");
        noValue(x, 0, BARRED);
        steps(x, 0, 1);
        x.is("counter(0)", 0);
    }

    private static void aroundBarredAsLong() {
        String words = "if the WEIGHTS of the row together (as a long) are below its VALUE";
        int[][] rows = {{Due.MAX, 1}, {Due.MAX, Due.MAX}, {Due.MIN, -1}, {Due.MIN, Due.MIN}, {Due.MAX, -1}, {7, 8}};
        boolean[][] want = {{false, false}, {false, false}, {true, true}, {true, true}, {false, true}, {false, true}};
        for (int k = 0; k < rows.length; k++) {
            Run x = with(due.term(words), 2);
            x.lays(0, 0, 5, false, "-1", "-1");
            x.tells(0, 0, rows[k][0]);
            x.tells(1, 0, rows[k][1]);
            barred(x, Due.MIN, want[k][0]);
            barred(x, Due.MAX, want[k][1]);
        }
        Run x = with(due.term(words), 2);
        x.lays(0, 0, 5, false, "-1", "-1");
        x.tells(0, 0, 7);
        x.tells(1, 0, 8);
        barred(x, 15, false);
        barred(x, 16, true);
    }

    private static void aroundOnlyTakers() {
        Run x = with(due.term("Else LAID HANDLERS of the FUNCTION that are AROUND and TAKE the row"), 1, 1);
        x.tells(0, 3, 10);
        x.lays(0, 0, 5, false, "-1");
        x.lays(0, 0, Due.MAX, true, "4");
        x.lays(0, 0, Due.MAX, true, "3 11 MAX");
        x.lays(0, 0, Due.MAX, true, "3 MIN 9");
        x.makes(0, 0, Due.MAX, true, "-1");
        x.lays(0, 0, Due.MAX, true, "3");
        x.does("lift(5)");
        x.lays(1, 0, Due.MAX, true, "-1");
        value(x, 0, 5);
        steps(x, 0);
        x.does("lay(4)");
        noValue(x, 0, BARRED);
        steps(x, 4);
    }

    private static void aroundAheadOfNone() {
        Run x = with(due.term("the CALL is BARRED. Else, of the LAID ones that aren't AROUND and TAKE the row"), 1);
        x.tells(0, 3, 10);
        x.lays(0, 3, 7, true, "-1");
        noValue(x, 0, NONE);
        steps(x, 0);
        x.lays(0, 3, 11, true, "3");
        noValue(x, 0, BARRED);
        steps(x, 1);
        // Ahead of a doubt too.
        x.lays(0, 0, 0, false, "-1 0 10");
        x.lays(0, 0, 0, false, "-1 10 20");
        noValue(x, 0, BARRED);
        x.does("lift(1)");
        noValue(x, 0, DOUBT);
        steps(x, 0);
    }

    private static void callNone() {
        Run x = with(due.term("if there is none: NONE"), 1, 1);
        x.tells(0, 3, 10);
        noValue(x, 0, NONE);
        steps(x);
        x.is("count(-1, 4)", 1);
        x.makes(0, 0, 0, false, "-1");
        x.lays(0, 0, 0, false, "4");
        x.lays(0, 0, 0, false, "3 11 11");
        x.lays(1, 0, 0, false, "-1");
        noValue(x, 0, NONE);
        x.does("lay(0)");
        value(x, 0, 0);
        x.does("lift(0)");
        noValue(x, 0, NONE);
    }

    private static void callDoubt() {
        Run x = due.term("if none is CHOSEN: DOUBT; else the CHOSEN one is RUN.");
        x.does("parent(1, 0)", "has(1, 12)", "close()", "function(1)");
        x.tells(0, 1, 10);
        x.lays(0, 0, 5, false, "0");
        value(x, 0, 5);
        x.lays(0, 0, 6, false, "12");
        noValue(x, 0, DOUBT);
        steps(x);
        x.lays(0, 0, 7, false, "1 10 10");
        value(x, 0, 7);
        steps(x, 2);
        x.tells(0, 1, 11);
        noValue(x, 0, DOUBT);
        // One that is more specific than one of them alone doesn't help.
        x.lays(0, 0, 8, false, "0 11 11");
        noValue(x, 0, DOUBT);
    }

    // ---- part 3: actions

    private static void actionGive() {
        for (int v : new int[] {0, -1, Due.MIN, Due.MAX}) {
            Run x = with(due.term("0: the value is v."), 1);
            x.tells(0, 0, 77);
            x.lays(0, 0, v, false, "-1");
            value(x, 0, v);
            steps(x, 0);
        }
    }

    private static void actionWeigh() {
        int[] ends = {Due.MIN, -1, 0, Due.MAX};
        for (int v : ends) {
            Run x = with(due.term("1: the WEIGHTS of the row and v together."), 1, 2);
            x.lays(0, 1, v, false, "-1");
            x.lays(1, 1, v, false, "-1", "-1");
            for (int first : ends) {
                x.tells(0, 0, first);
                value(x, 0, (long) first + v);
                for (int second : ends) {
                    x.tells(1, 0, second);
                    value(x, 1, (long) first + second + v);
                }
            }
        }
    }

    private static void actionPassOn() {
        Run x = due.term("if there is none, the value is v");
        x.does("parent(1, 0)", "parent(2, 1)", "close()", "function(1)");
        x.tells(0, 2, 10);
        x.lays(0, 2, -6, false, "2");
        value(x, 0, -6);
        steps(x, 0);
        x.lays(0, 2, 70, false, "1");
        value(x, 0, 64);
        steps(x, 0, 1);
        x.lays(0, 1, 800, false, "0");
        value(x, 0, 874);
        steps(x, 0, 1, 2);
        x.is("count(-1, 4)", 1);
        // It isn't another call: nothing more is looked for.
        x.is("count(0, 4)", 1);
        x.is("count(0, 3)", 0);
    }

    private static void actionPassOnDoubt() {
        Run x = due.term("if none is CHOSEN: DOUBT; else the CHOSEN one is RUN, and the value is its value and v.");
        x.does("parent(1, 0)", "has(1, 12)", "close()", "function(1)");
        x.tells(0, 1, 10);
        x.lays(0, 2, 1, false, "1");
        x.lays(0, 0, 20, false, "0");
        value(x, 0, 21);
        x.lays(0, 0, 30, false, "12");
        noValue(x, 0, DOUBT);
        steps(x, 0);
        x.does("lift(1)");
        value(x, 0, 31);
        steps(x, 0, 2);
    }

    private static void actionPassOnAmong() {
        Run x = due.term("of the LAID HANDLERS that aren't AROUND, TAKE the row and are such that h is MORE SPECIFIC than they are");
        x.does("parent(1, 0)", "parent(2, 1)", "close()", "function(1)", "function(1)");
        x.tells(0, 2, 10);
        x.lays(0, 2, 1, false, "2");
        int around = x.lays(0, 0, 0, true, "1");
        x.lays(0, 0, 200, false, "1 11 20");
        x.makes(0, 0, 300, false, "1");
        x.lays(0, 0, 400, false, "1 0 20");
        x.does("lift(4)");
        x.lays(1, 0, 500, false, "0");
        value(x, 0, 1);
        steps(x, around, 0);
        x.does("lay(3)");
        value(x, 0, 301);
        steps(x, around, 0, 3);
        // One that is run by another one passes on to what is less specific than it is itself.
        x.lays(0, 2, 7000, false, "2 10 10");
        value(x, 0, 7301);
        steps(x, around, 6, 0, 3);
    }

    private static void valuesAreLongs() {
        int[] ends = {Due.MAX, Due.MIN};
        for (int v : ends) {
            Run x = due.term("(v is its VALUE; values are longs, they wrap)");
            for (int c = 1; c < 8; c++) {
                x.does("parent(" + c + ", " + (c - 1) + ")");
            }
            x.does("close()", "function(1)", "function(1)");
            x.tells(0, 7, v);
            for (int c = 1; c < 8; c++) {
                x.lays(0, 2, v, false, "" + c);
            }
            x.lays(0, 6, 1, false, "0");
            x.lays(1, 1, v, false, "-1");
            value(x, 0, 9L * v + 1);
            x.is("count(-1, 3)", 9);
        }
    }

    private static void actionFail() {
        for (int v : new int[] {0, 5, -1, -2, Due.MIN, Due.MAX}) {
            Run x = with(due.term("3: FAILED, the FAILURE is v."), 1);
            x.tells(0, 0, 77);
            x.lays(0, 3, v, false, "-1");
            failure(x, 0, v);
            steps(x, 0);
        }
    }

    private static void actionCountUp() {
        int[] values = {0, 7, 8, 15, -1, -7, -8, -9, Due.MIN, Due.MIN + 1, Due.MAX};
        int[] numbers = {0, 7, 0, 7, 7, 1, 0, 7, 0, 1, 7};
        for (int k = 0; k < values.length; k++) {
            Run x = with(due.term("4: COUNTER number v modulo 8 (0 .. 7, not below 0) is one more; the value is what it is then."), 1);
            x.tells(0, 0, 77);
            x.lays(0, 4, values[k], false, "-1");
            for (int times = 1; times <= 3; times++) {
                value(x, 0, times);
                for (int c = 0; c < 8; c++) {
                    x.is("counter(" + c + ")", c == numbers[k] ? times : 0);
                }
            }
        }
    }

    private static void actionBringSample() {
        Run x = with(due.term("5: a SAMPLE comes, of the CLASS of the first of the row, its WEIGHT being that one's and v"), 1, 2);
        x.lays(0, 5, -3, false, "-1");
        x.lays(1, 5, 40, false, "-1", "-1");
        x.tells(0, 7, 100);
        x.tells(1, 8, 2000);
        value(x, 0, 2);
        x.is("of(2, 0)", 7);
        x.is("of(2, 1)", 97);
        value(x, 1, 3);
        x.is("of(3, 0)", 7);
        x.is("of(3, 1)", 140);
        x.is("samples()", 4);
        x.is("sample(0, 0)", 4);
        // What came isn't told, but may be.
        value(x, 0, 5);
        x.is("of(5, 1)", 97);
        x.does("arg(0, 5)");
        value(x, 0, 6);
        x.is("of(6, 1)", 94);
    }

    private static void actionBringWrapping() {
        int[][] sums = {{Due.MAX, 1, Due.MIN}, {Due.MAX, 0, Due.MAX}, {Due.MIN, -1, Due.MAX}, {Due.MIN, 0, Due.MIN},
            {Due.MAX, Due.MAX, -2}, {Due.MIN, Due.MIN, 0}, {Due.MAX, Due.MIN, -1}};
        for (int[] sum : sums) {
            Run x = with(due.term("(an int, wrapping); the value is its number"), 1);
            x.tells(0, 11, sum[0]);
            x.lays(0, 5, sum[1], false, "-1");
            value(x, 0, 1);
            x.is("of(1, 0)", 11);
            x.is("of(1, 1)", sum[2]);
        }
    }

    private static void actionBringFull() {
        Run x = with(due.term("if there are 300: FAILED, the FAILURE is -1."), 1);
        x.tells(0, 5, 1);
        x.lays(0, 5, 1, false, "-1");
        for (int s = 1; s < 299; s++) {
            x.does("sample(0, 0)");
        }
        value(x, 0, 299);
        x.is("of(299, 0)", 5);
        x.is("of(299, 1)", 2);
        failure(x, 0, -1);
        steps(x, 0);
        x.is("samples()", 300);
        x.is("of(299, 1)", 2);
        x.is("of(300, 1)", -1);
        failure(x, 0, -1);
    }

    private static void actionCall() {
        int[] values = {0, 3, 4, 7, -1, -3, -4, -5, Due.MIN, Due.MIN + 1, Due.MAX};
        int[] functions = {0, 3, 0, 3, 3, 1, 0, 3, 0, 1, 3};
        for (int action = 6; action <= 7; action++) {
            for (int k = 0; k < values.length; k++) {
                Run x = with(due.term("6: a CALL of FUNCTION v modulo 4 (likewise) with the same row"), 1, 1, 1, 1);
                x.tells(0, 5, 10);
                for (int f = 0; f < 4; f++) {
                    if (f != 2) {
                        x.lays(f, 1, 1000 * f, false, "-1");
                    }
                }
                int caller = x.lays(2, action, values[k], false, "-1");
                value(x, 2, 1000L * functions[k] + 11);
                steps(x, caller, functions[k] == 3 ? 2 : functions[k]);
                x.is("count(-1, 4)", 2);
            }
        }
    }

    private static void actionCallMissing() {
        String words = "(if that has another number of PLACES, or isn't there: FAILED, the FAILURE is -2)";
        for (int action = 6; action <= 7; action++) {
            Run x = with(due.term(words), 1, 2);
            x.tells(0, 5, 10);
            x.tells(1, 5, 10);
            x.lays(0, action, 1, false, "-1 10 10");
            x.lays(1, action, 0, false, "-1", "-1 10 10");
            x.lays(0, 0, 3, false, "-1");
            x.lays(1, 0, 4, false, "-1", "-1");
            failure(x, 0, -2);
            steps(x, 0);
            x.is("count(-1, 4)", 1);
            failure(x, 1, -2);
            steps(x, 1);
            x.is("count(-1, 4)", 1);
            x.does("lift(0)", "lift(1)");
            x.lays(0, action, 2, false, "-1 0 10");
            x.lays(1, action, 3, false, "-1 0 10", "-1");
            failure(x, 0, -2);
            failure(x, 1, -2);
            // A failure and no call: nothing is looked for in another function.
            x.is("count(1, 4)", 1);
            x.does("function(1)");
            x.is("call(0)", NONE);
            x.is("failure()", 0);
            x.is("count(-1, 4)", 2);
        }
    }

    private static void actionCallTurned() {
        Run x = with(due.term("7: as 6, with the row turned round."), 2, 2, 1, 1);
        x.tells(0, 3, 30);
        x.tells(1, 4, 400);
        x.lays(0, 7, 1, false, "-1", "-1");
        x.lays(1, 5, 0, false, "4 400 400", "3 30 30");
        value(x, 0, 3);
        x.is("of(2, 0)", 4);
        x.is("of(2, 1)", 400);
        // The told samples aren't turned.
        x.is("call(1)", NONE);
        x.does("lift(1)");
        x.lays(1, 6, 0, false, "-1", "-1");
        x.lays(0, 1, 5, false, "4", "3");
        value(x, 0, 437);
        steps(x, 0, 2, 3);
        Run one = with(due.term("7: as 6, with the row turned round."), 1, 1);
        one.tells(0, 3, 30);
        one.tells(1, 4, 400);
        one.lays(0, 7, 1, false, "-1");
        one.lays(1, 1, 0, false, "3 30 30");
        value(one, 0, 31);
    }

    private static void outcomesGoOut() {
        String words = "What a CALL within another one, or a HANDLER that was RUN by another one, comes to other than a value "
            + "ends that one with the same outcome (and FAILURE).";
        for (int action = 6; action <= 7; action++) {
            Run x = due.term(words);
            x.does("parent(1, 0)", "close()", "function(1)", "function(1)", "function(2)");
            x.tells(0, 1, 5);
            x.lays(0, 2, 1000, false, "1");
            x.lays(0, action, 1, false, "0");
            noValue(x, 0, NONE);
            steps(x, 0, 1);
            Run failing = x.again();
            failing.lays(1, 3, -77, false, "-1");
            failure(failing, 0, -77);
            steps(failing, 0, 1, 2);
            Run missing = x.again();
            missing.lays(1, 6, 2, false, "-1");
            failure(missing, 0, -2);
            Run doubting = x.again();
            doubting.lays(1, 0, 0, false, "-1 0 5");
            doubting.lays(1, 0, 0, false, "-1 5 9");
            noValue(doubting, 0, DOUBT);
            steps(doubting, 0, 1);
            Run barring = x.again();
            barring.lays(1, 0, 6, true, "-1");
            noValue(barring, 0, BARRED);
            steps(barring, 0, 1, 2);
            Run deep = x.again();
            deep.lays(1, 6, 0, false, "-1");
            noValue(deep, 0, DEEP);
            x.lays(1, 0, 7, false, "-1");
            value(x, 0, 1008);
        }
        Run full = with(due.term(words), 1, 1);
        full.lays(0, 6, 1, false, "-1");
        full.lays(1, 5, 0, false, "-1");
        full.tells(0, 0, 0);
        for (int s = 1; s < 300; s++) {
            full.does("sample(0, 0)");
        }
        failure(full, 0, -1);
    }

    private static void countersStay() {
        Run x = due.term("COUNTERS and SAMPLES stay as they are then.");
        x.does("parent(1, 0)", "close()", "function(1)");
        x.tells(0, 1, 5);
        x.lays(0, 4, 3, false, "-1");
        value(x, 0, 1);
        x.lays(0, 5, 3, false, "0");
        value(x, 0, 1);
        x.lays(0, 3, 8, false, "1");
        failure(x, 0, 8);
        x.is("counter(3)", 1);
        x.is("samples()", 2);
        x.does("lift(2)", "lift(1)");
        value(x, 0, 2);
        x.is("counter(3)", 2);
    }

    // ---- promises 23 to 26

    /** A board whose functions 0 to 3 come to a value of 9, a failure of 8, a doubt, and nothing told. */
    private static Run outcomes(Run x) {
        with(x, 1, 1, 1, 2);
        x.tells(0, 0, 5);
        x.lays(0, 0, 9, false, "-1");
        x.lays(1, 3, 8, false, "-1");
        x.lays(2, 0, 0, false, "-1 0 5");
        x.lays(2, 0, 0, false, "-1 5 9");
        return x;
    }

    private static void valueOfLatest() {
        Run x = outcomes(due.promise(23, "The value of the latest call() that wasn't refused, if that answered 0, else 0."));
        x.is("value()", 0);
        x.is("call(3)", CallBoard.STATE);
        x.is("value()", 0);
        value(x, 0, 9);
        x.refused("call(3)", CallBoard.STATE);
        x.refused("call(4)", CallBoard.NUMBER);
        x.is("value()", 9);
        x.is("value()", 9);
        x.is("call(1)", FAILED);
        x.is("value()", 0);
        value(x, 0, 9);
        x.is("call(2)", DOUBT);
        x.is("value()", 0);
        value(x, 0, 9);
        x.lays(0, 0, 6, true, "-1");
        x.is("value()", 9);
        x.is("call(0)", BARRED);
        x.is("value()", 0);
        x.does("lift(4)", "lift(0)");
        x.is("call(0)", NONE);
        x.is("value()", 0);
        x.lays(0, 6, 0, false, "-1");
        x.is("call(0)", DEEP);
        x.is("value()", 0);
    }

    private static void failureOfLatest() {
        Run x = outcomes(due.promise(24, "The FAILURE of the latest call() that wasn't refused, if that answered 3, else 0."));
        x.is("failure()", 0);
        failure(x, 1, 8);
        x.refused("call(3)", CallBoard.STATE);
        x.refused("call(-1)", CallBoard.NUMBER);
        x.is("failure()", 8);
        x.is("call(0)", VALUE);
        x.is("failure()", 0);
        failure(x, 1, 8);
        x.is("call(2)", DOUBT);
        x.is("failure()", 0);
        failure(x, 1, 8);
        x.lays(1, 0, 6, true, "-1");
        x.is("call(1)", BARRED);
        x.is("failure()", 0);
        x.does("lift(4)");
        failure(x, 1, 8);
        x.does("lift(1)");
        x.is("failure()", 8);
        x.is("call(1)", NONE);
        x.is("failure()", 0);
    }

    private static void stepOfLatest() {
        Run x = outcomes(due.promise(25, "STEP k of the latest call() that wasn't refused, a HANDLER; -1 if there is none such."));
        x.is("step(0)", -1);
        x.is("call(1)", FAILED);
        for (String k : new String[] {"-1", "1", "2", "999", "1000", "1001", "MIN", "MAX"}) {
            x.is("step(" + k + ")", -1);
        }
        x.is("step(0)", 1);
        x.refused("call(3)", CallBoard.STATE);
        x.refused("call(MAX)", CallBoard.NUMBER);
        steps(x, 1);
        x.is("call(2)", DOUBT);
        steps(x);
        x.is("call(0)", VALUE);
        steps(x, 0);
        x.does("lift(0)");
        steps(x, 0);
        x.is("call(0)", NONE);
        steps(x);
    }

    /** Twelve calls of eight steps are the most that can come. */
    private static void stepsAll() {
        Run x = due.promise(25, "(1,000 STEPS are kept, all are counted by count().)");
        for (int c = 1; c < 4; c++) {
            x.does("parent(" + c + ", " + (c - 1) + ")");
        }
        x.does("close()", "function(1)");
        x.tells(0, 3, 0);
        for (int c = 0; c < 4; c++) {
            x.lays(0, c == 0 ? 6 : 2, 0, false, "" + c);
            x.lays(0, 0, 0, true, "" + c);
        }
        x.is("call(0)", DEEP);
        x.is("count(-1, 3)", 96);
        int[] want = {7, 5, 3, 1, 6, 4, 2, 0};
        for (int k = 0; k < 96; k++) {
            x.is("step(" + k + ")", want[k % 8]);
        }
        x.is("step(96)", -1);
    }

    private static void counterNone() {
        Run x = due.promise(26, "COUNTER k; -1 if it isn't 0 .. 7.");
        x.all(0, "counter(0)", "counter(7)");
        x.all(-1, "counter(-1)", "counter(8)", "counter(9)", "counter(MIN)", "counter(MAX)");
        with(x, 1);
        for (int k = 0; k < 8; k++) {
            x.lays(0, 4, k, false, "" + k);
            x.tells(0, k, 0);
            for (int times = 0; times <= k; times++) {
                value(x, 0, times + 1);
            }
        }
        for (int k = 0; k < 8; k++) {
            x.is("counter(" + k + ")", k + 1);
        }
        x.all(-1, "counter(-1)", "counter(8)");
    }

    private static void lastCallOfAll() {
        Run x = with(new Run(due, "What it is", "An object is used for at most 512 calls after it has been made"), 1);
        x.tells(0, 0, 0);
        x.lays(0, 4, 0, false, "-1");
        int made = x.callCount();
        while (x.callCount() < Run.MOST_CALLS - 3) {
            x.is("call(0)", VALUE);
        }
        x.is("counter(0)", Run.MOST_CALLS - 3 - made);
        x.is("count(0, 3)", Run.MOST_CALLS - 4 - made);
        x.is("call(0)", VALUE);
    }
}

/** Promises 21 to 26 and 31: calls, what they leave behind, and counts. */
public final class CallTest {
    private static final Due due = new Due();

    public static void main(String[] args) {
        args();
        refusals();
        valuesAndWeights();
        passingOn();
        passingOnInDoubt();
        failing();
        counting();
        bringingSamples();
        callingOthers();
        turningRound();
        missingFunctions();
        deepCalls();
        longestRun();
        around();
        aroundInOrder();
        outcomesOfOthers();
        remembering();
        rememberingPieces();
        rememberingTwoPlaces();
        forgetting();
        counts();
        due.end();
    }

    private static void args() {
        CallBoard x = Due.closedBoard();
        x.sample(0, 1);
        due.is("arg(0, 0)", x.arg(0, 0), 1);
        due.is("arg(1, 0)", x.arg(1, 0), 1);
        due.is("arg(2, 0)", x.arg(2, 0), CallBoard.NUMBER);
        due.is("arg(-1, 0)", x.arg(-1, 0), CallBoard.NUMBER);
        due.is("arg(0, 1)", x.arg(0, 1), CallBoard.NUMBER);
        due.is("arg(0, -1)", x.arg(0, -1), CallBoard.NUMBER);
        due.is("arg(MAX, MAX)", x.arg(Due.MAX, Due.MAX), CallBoard.NUMBER);
        x.function(1);
        Due.lay(x, 0, 1, 0, -1);
        due.is("call(0)", x.call(0), 0);
        due.is("value() of the told one", x.value(), 1);
        x.sample(0, 20);
        x.arg(0, 1);
        x.arg(0, 7);
        x.arg(1, 0);
        x.call(0);
        due.is("value() of the one told later", x.value(), 20);
    }

    private static void refusals() {
        CallBoard x = Due.closedBoard();
        x.function(1);
        x.function(2);
        Due.lay(x, 0, 0, 8, -1);
        Due.layTwo(x, 1, 3, 9, -1, -1);
        due.is("call(0), nothing told", x.call(0), CallBoard.STATE);
        due.is("call(2)", x.call(2), CallBoard.NUMBER);
        due.is("call(-1)", x.call(-1), CallBoard.NUMBER);
        due.is("call(4)", x.call(4), CallBoard.NUMBER);
        x.sample(0, 1);
        x.arg(1, 0);
        due.is("call(1), one told", x.call(1), CallBoard.STATE);
        due.is("call(0), the other one told", x.call(0), CallBoard.STATE);
        x.arg(0, 0);
        due.is("call(0)", x.call(0), 0);
        due.is("value()", x.value(), 8);
        x.call(3);
        due.is("value() after a refusal", x.value(), 8);
        due.is("step(0) after a refusal", x.step(0), 0);
        due.is("call(1)", x.call(1), 3);
        due.is("value() of a failure", x.value(), 0);
        due.is("failure()", x.failure(), 9);
        x.call(-5);
        due.is("failure() after a refusal", x.failure(), 9);
        due.is("count(-1, 3) after a refusal", x.count(-1, 3), 1);
        due.is("call(0)", x.call(0), 0);
        due.is("failure() of a value", x.failure(), 0);
    }

    private static void valuesAndWeights() {
        CallBoard x = Due.closedBoard();
        x.function(1);
        x.function(2);
        Due.lay(x, 0, 0, Due.MIN, 0);
        Due.lay(x, 0, 1, Due.MIN, 1);
        Due.layTwo(x, 1, 1, Due.MAX, -1, -1);
        x.sample(0, 5);
        x.sample(1, Due.MIN);
        x.sample(1, Due.MAX);
        x.arg(0, 0);
        due.is("call(0)", x.call(0), 0);
        due.is("value() of action 0", x.value(), Due.MIN);
        x.arg(0, 1);
        x.call(0);
        due.is("value() of action 1", x.value(), 2L * Due.MIN);
        x.arg(0, 2);
        x.arg(1, 2);
        due.is("call(1)", x.call(1), 0);
        due.is("value() of action 1, two places", x.value(), 3L * Due.MAX);
        due.is("step(0)", x.step(0), 2);
        due.is("step(1)", x.step(1), -1);
        due.is("step(-1)", x.step(-1), -1);
        due.is("step(MAX)", x.step(Due.MAX), -1);
    }

    private static CallBoard chainBoard() {
        CallBoard x = new CallBoard();
        x.parent(1, 0);
        x.parent(2, 1);
        x.has(1, 12);
        x.close();
        x.function(1);
        x.sample(2, 6);
        x.sample(0, 6);
        x.arg(0, 0);
        return x;
    }

    private static void passingOn() {
        CallBoard x = chainBoard();
        int low = Due.lay(x, 0, 2, 100, 2);
        due.is("call(0), none to pass on to", x.call(0), 0);
        due.is("value()", x.value(), 100);
        due.is("count(-1, 3)", x.count(-1, 3), 1);
        int mid = Due.lay(x, 0, 2, -20, 1);
        int top = Due.lay(x, 0, 1, 1, 0);
        x.call(0);
        due.is("value() of three", x.value(), 87);
        due.is("step(0)", x.step(0), low);
        due.is("step(1)", x.step(1), mid);
        due.is("step(2)", x.step(2), top);
        due.is("step(3)", x.step(3), -1);
        due.is("count(-1, 4) isn't deeper", x.count(-1, 4), 1);
        due.is("count(0, 3), no call is within", x.count(0, 3), 0);
        x.arg(0, 1);
        x.call(0);
        due.is("value() of the last one alone", x.value(), 7);
        due.is("step(1) of the call before", x.step(1), -1);
        // One that doesn't take the row isn't passed on to.
        x.arg(0, 0);
        x.lift(mid);
        int out = Due.lay(x, 0, 0, 5000, 1, 7, 8);
        x.call(0);
        due.is("value() past one that doesn't take", x.value(), 107);
        due.is("about", x.about(out, 4), 1);
    }

    private static void passingOnInDoubt() {
        CallBoard x = chainBoard();
        Due.lay(x, 0, 2, 1, 2);
        int zero = Due.lay(x, 0, 0, 1, 0);
        Due.lay(x, 0, 0, 1, 12);
        due.is("call(0) passes on in doubt", x.call(0), 2);
        due.is("value()", x.value(), 0);
        due.is("count(-1, 3)", x.count(-1, 3), 1);
        x.lift(zero);
        due.is("call(0)", x.call(0), 0);
        due.is("value()", x.value(), 2);
        Due.lay(x, 0, 3, 44, 0, 6, 6);
        due.is("call(0) in doubt again", x.call(0), 2);
        Due.lay(x, 0, 2, 5, 1);
        due.is("call(0) passes on to one that is in doubt", x.call(0), 2);
        due.is("count(-1, 3)", x.count(-1, 3), 2);
    }

    private static void failing() {
        CallBoard x = chainBoard();
        due.is("call(0) of none", x.call(0), 1);
        due.is("count(-1, 3)", x.count(-1, 3), 0);
        due.is("count(-1, 4)", x.count(-1, 4), 1);
        Due.lay(x, 0, 3, -7, 1);
        due.is("call(0)", x.call(0), 3);
        due.is("failure()", x.failure(), -7);
        Due.lay(x, 0, 2, 5, 2);
        due.is("call(0), passed on", x.call(0), 3);
        due.is("failure(), passed on", x.failure(), -7);
        due.is("value(), passed on", x.value(), 0);
        x.arg(0, 1);
        due.is("call(0) of none", x.call(0), 1);
        due.is("failure() of none", x.failure(), 0);
    }

    private static void counting() {
        CallBoard x = Due.closedBoard();
        x.function(1);
        x.function(1);
        Due.lay(x, 0, 4, -1, 0);
        Due.lay(x, 0, 4, 15, 1);
        Due.lay(x, 0, 4, Due.MIN, 2);
        Due.lay(x, 0, 2, 100, 3);
        Due.lay(x, 0, 4, 3, -1);
        for (int c = 0; c < 4; c++) {
            x.sample(c, 0);
        }
        x.arg(0, 0);
        x.call(0);
        due.is("value()", x.value(), 1);
        due.is("counter(7)", x.counter(7), 1);
        x.arg(0, 1);
        x.call(0);
        due.is("value()", x.value(), 2);
        due.is("counter(7)", x.counter(7), 2);
        x.arg(0, 2);
        x.call(0);
        due.is("counter(0)", x.counter(0), 1);
        x.arg(0, 3);
        x.call(0);
        due.is("value(), passed on", x.value(), 101);
        due.is("counter(3)", x.counter(3), 1);
        due.is("counter(8)", x.counter(8), -1);
        due.is("counter(-1)", x.counter(-1), -1);
        due.is("counter(MIN)", x.counter(Due.MIN), -1);
        due.is("counter(1)", x.counter(1), 0);
    }

    private static void bringingSamples() {
        CallBoard x = Due.closedBoard();
        x.function(2);
        Due.layTwo(x, 0, 5, 10, -1, -1);
        x.sample(4, Due.MAX);
        x.sample(5, 1);
        x.arg(0, 0);
        x.arg(1, 1);
        due.is("call(0)", x.call(0), 0);
        due.is("value()", x.value(), 2);
        due.is("samples()", x.samples(), 3);
        due.is("of(2, 0)", x.of(2, 0), 4);
        due.is("of(2, 1) wraps", x.of(2, 1), Due.MIN + 9);
        for (int i = 3; i < 300; i++) {
            x.sample(0, 0);
        }
        due.is("call(0) of 300", x.call(0), 3);
        due.is("failure()", x.failure(), -1);
        due.is("samples()", x.samples(), 300);
        due.is("arg(0, 299)", x.arg(0, 299), 1);
        due.is("arg(0, 300)", x.arg(0, 300), CallBoard.NUMBER);
    }

    private static void callingOthers() {
        CallBoard x = Due.closedBoard();
        x.function(1);
        x.function(1);
        int caller = Due.lay(x, 0, 6, -3, -1);
        int called = Due.lay(x, 1, 1, 10, -1);
        x.sample(0, 5);
        x.arg(0, 0);
        due.is("call(0)", x.call(0), 0);
        due.is("value()", x.value(), 16);
        due.is("step(0)", x.step(0), caller);
        due.is("step(1)", x.step(1), called);
        due.is("count(-1, 4)", x.count(-1, 4), 2);
        x.call(1);
        due.is("count(-1, 4) of one", x.count(-1, 4), 1);
        due.is("count(1, 3)", x.count(1, 3), 1);
        due.is("count(0, 3)", x.count(0, 3), 0);
        // What passes on to a caller adds to its value.
        Due.lay(x, 0, 2, 1000, 0);
        x.call(0);
        due.is("value(), passed on", x.value(), 1016);
        x.lift(called);
        due.is("call(0), the other has none", x.call(0), 1);
    }

    private static void turningRound() {
        CallBoard x = Due.closedBoard();
        x.function(2);
        x.function(2);
        x.function(1);
        int turning = Due.layTwo(x, 0, 7, 1, 3, 4);
        int plain = Due.layTwo(x, 1, 5, 0, 4, 3);
        x.sample(3, 30);
        x.sample(4, 40);
        x.arg(0, 0);
        x.arg(1, 1);
        due.is("call(0)", x.call(0), 0);
        due.is("value()", x.value(), 3);
        due.is("of(2, 0) is of the first of the turned row", x.of(2, 0), 4);
        due.is("of(2, 1)", x.of(2, 1), 40);
        due.is("step(0)", x.step(0), turning);
        due.is("step(1)", x.step(1), plain);
        due.is("call(1), told as before", x.call(1), 1);
        int one = Due.lay(x, 2, 7, 2, 3, 1, Due.MAX);
        due.is("call(2) turns one place", x.call(2), 4);
        due.is("step(11)", x.step(11), one);
        int weighing = x.handler(1, 0, 66, false);
        x.test(weighing, 0, 40, 40);
        x.test(weighing, 1, 30, 30);
        x.lay(weighing);
        x.lift(plain);
        due.is("call(0), weights are turned", x.call(0), 0);
        due.is("value()", x.value(), 67);
        x.lift(weighing);
        // Twice turned is as told.
        int turningBack = Due.layTwo(x, 1, 7, 4, 4, -1);
        Due.layTwo(x, 0, 0, 77, 3, -1);
        x.lift(turning);
        x.arg(0, 1);
        x.arg(1, 0);
        due.is("call(1)", x.call(1), 0);
        due.is("value()", x.value(), 78);
        due.is("applicable(1, 0), told as before", x.applicable(1, 0), turningBack);
    }

    private static void missingFunctions() {
        CallBoard x = Due.closedBoard();
        x.function(1);
        x.function(2);
        Due.lay(x, 0, 6, 1, 0);
        Due.lay(x, 0, 6, 2, 1);
        Due.lay(x, 0, 7, 7, 2);
        Due.lay(x, 0, 2, 5, 3);
        Due.lay(x, 0, 7, 1, -1);
        for (int c = 0; c < 4; c++) {
            x.sample(c, 0);
            x.arg(0, c);
            due.is("call(0) of class " + c, x.call(0), 3);
            due.is("failure()", x.failure(), -2);
            due.is("count(-1, 4)", x.count(-1, 4), 1);
        }
    }

    private static void deepCalls() {
        CallBoard x = Due.closedBoard();
        x.function(1);
        x.function(1);
        x.sample(0, 0);
        x.arg(0, 0);
        Due.lay(x, 0, 6, 1, -1);
        int back = Due.lay(x, 1, 6, 0, -1);
        due.is("call(0) goes round", x.call(0), 4);
        due.is("count(-1, 3)", x.count(-1, 3), 12);
        due.is("count(-1, 4)", x.count(-1, 4), 12);
        due.is("step(11)", x.step(11), 1);
        due.is("step(12)", x.step(12), -1);
        due.is("value()", x.value(), 0);
        due.is("count(0, 3)", x.count(0, 3), 5);
        due.is("count(0, 4)", x.count(0, 4), 1);
        x.lift(back);
        due.is("call(0)", x.call(0), 1);
        due.is("count(-1, 4)", x.count(-1, 4), 2);
    }

    private static void longestRun() {
        CallBoard x = new CallBoard();
        for (int c = 1; c < 8; c++) {
            x.parent(c, c - 1);
        }
        x.close();
        x.function(1);
        x.sample(7, 0);
        x.arg(0, 0);
        Due.lay(x, 0, 6, 4, 0);
        for (int c = 1; c < 8; c++) {
            Due.lay(x, 0, 2, 1, c);
        }
        due.is("call(0)", x.call(0), 4);
        due.is("count(-1, 3)", x.count(-1, 3), 96);
        due.is("step(0)", x.step(0), 7);
        due.is("step(95)", x.step(95), 0);
        due.is("step(96)", x.step(96), -1);
        due.is("step(1000)", x.step(1000), -1);
    }

    private static void around() {
        CallBoard x = Due.closedBoard();
        x.function(2);
        x.sample(0, Due.MAX);
        x.sample(1, 1);
        x.arg(0, 0);
        x.arg(1, 1);
        int plain = Due.layTwo(x, 0, 4, 0, -1, -1);
        int around = x.handler(0, 3, Due.MAX, true);
        x.lay(around);
        due.is("call(0), weights together as a long", x.call(0), 0);
        due.is("step(0)", x.step(0), around);
        due.is("step(1)", x.step(1), plain);
        x.sample(1, 0);
        x.arg(1, 2);
        due.is("call(0), weights just reach the value", x.call(0), 0);
        x.sample(1, -1);
        x.arg(1, 3);
        due.is("call(0), weights below the value", x.call(0), 5);
        due.is("step(0)", x.step(0), around);
        due.is("count(-1, 3)", x.count(-1, 3), 1);
        due.is("counter(0) isn't counted then", x.counter(0), 2);
        due.is("count(0, 4), a barred call isn't looked for", x.count(0, 4), 1);
        due.is("count(0, 3)", x.count(0, 3), 1);
        int elsewhere = x.handler(0, 0, Due.MAX, true);
        x.place(elsewhere, 0, 5);
        x.lay(elsewhere);
        x.arg(1, 1);
        due.is("call(0), one around doesn't take it", x.call(0), 0);
        due.is("count(-1, 3)", x.count(-1, 3), 2);
        x.lift(plain);
        due.is("call(0), only one around takes it", x.call(0), 1);
        due.is("step(0)", x.step(0), around);
        x.lift(around);
        due.is("call(0), nothing takes it", x.call(0), 1);
        due.is("count(-1, 3)", x.count(-1, 3), 0);
    }

    private static void aroundInOrder() {
        CallBoard x = new CallBoard();
        x.parent(1, 0);
        x.parent(2, 1);
        x.close();
        x.function(1);
        x.sample(2, 10);
        x.arg(0, 0);
        int wide = Due.layAround(x, 0, 0, -1, Due.MIN, Due.MAX);
        int range = Due.layAround(x, 0, 11, -1, 5, 15);
        int code = Due.layAround(x, 0, 1, 1, Due.MIN, Due.MAX);
        int plain = Due.lay(x, 0, 0, 0, -1, 9, 11);
        due.is("call(0)", x.call(0), 5);
        due.is("step(0)", x.step(0), code);
        due.is("step(1)", x.step(1), range);
        due.is("step(2)", x.step(2), -1);
        x.lift(range);
        due.is("call(0)", x.call(0), 0);
        due.is("step(0)", x.step(0), code);
        due.is("step(1)", x.step(1), wide);
        due.is("step(2)", x.step(2), plain);

        // The order is that of all laid ones: one that isn't around holds back one around.
        CallBoard y = new CallBoard();
        y.has(0, 12);
        y.has(0, 13);
        y.parent(1, 0);
        y.close();
        y.function(1);
        y.sample(1, 0);
        y.arg(0, 0);
        int first = Due.layAround(y, 0, 0, 12, Due.MIN, Due.MAX);
        int second = Due.layAround(y, 0, 0, 13, 0, 9);
        int holding = Due.lay(y, 0, 0, 0, 12, 0, 1);
        y.call(0);
        due.is("step(0), held back", y.step(0), second);
        due.is("step(1), held back", y.step(1), first);
        due.is("step(2)", y.step(2), holding);
    }

    private static void outcomesOfOthers() {
        CallBoard x = Due.closedBoard();
        x.function(1);
        x.function(1);
        x.sample(0, 5);
        x.arg(0, 0);
        Due.lay(x, 0, 6, 1, -1);
        int failing = Due.lay(x, 1, 3, 12, -1);
        due.is("call(0) fails within", x.call(0), 3);
        due.is("failure()", x.failure(), 12);
        x.lift(failing);
        Due.lay(x, 1, 0, 0, -1, 0, 5);
        int other = Due.lay(x, 1, 0, 0, -1, 5, 6);
        due.is("call(0) doubts within", x.call(0), 2);
        due.is("failure()", x.failure(), 0);
        x.lift(other);
        due.is("call(0)", x.call(0), 0);
        due.is("value()", x.value(), 1);
        int bar = Due.layAround(x, 1, 6, -1, Due.MIN, Due.MAX);
        due.is("call(0) is barred within", x.call(0), 5);
        due.is("step(1)", x.step(1), bar);
        due.is("value()", x.value(), 0);
    }

    private static void remembering() {
        CallBoard x = Due.closedBoard();
        x.function(1);
        x.function(1);
        // Ranges of one weight each make many pieces.
        for (int h = 0; h < 8; h++) {
            Due.lay(x, 0, 0, h, -1, 10 * h, 10 * h);
        }
        for (int s = 0; s < 17; s++) {
            x.sample(s % 2, s / 2 * 10);
        }
        for (int s = 0; s < 16; s++) {
            x.arg(0, s);
            due.is("call(0)", x.call(0), 0);
            due.is("count(0, 4)", x.count(0, 4), s + 1);
        }
        due.is("count(0, 3)", x.count(0, 3), 0);
        x.arg(0, 0);
        x.call(0);
        due.is("count(0, 3), a hit", x.count(0, 3), 1);
        x.arg(0, 16);
        due.is("call(0) of none", x.call(0), 1);
        due.is("count(0, 4), one went", x.count(0, 4), 16);
        x.call(0);
        due.is("count(0, 3), none is remembered too", x.count(0, 3), 2);
        x.arg(0, 0);
        x.call(0);
        due.is("count(0, 3), looked for lately", x.count(0, 3), 3);
        x.arg(0, 1);
        x.call(0);
        due.is("count(0, 3), the one that went", x.count(0, 3), 3);
        x.arg(0, 2);
        x.call(0);
        due.is("count(0, 3), the next that went", x.count(0, 3), 3);
        x.arg(0, 4);
        x.call(0);
        due.is("count(0, 3), one that stayed", x.count(0, 3), 4);
        due.is("count(1, 4) of another function", x.count(1, 4), 0);
        due.is("count(1, 3) of another function", x.count(1, 3), 0);
    }

    private static int hitsAfter(CallBoard x, int weight) {
        x.arg(0, x.sample(0, weight));
        x.call(0);
        return x.count(0, 3);
    }

    private static void rememberingPieces() {
        CallBoard x = Due.closedBoard();
        x.function(1);
        Due.lay(x, 0, 0, 0, 0, 10, 20);
        Due.layAround(x, 0, Due.MIN, 5, 30, Due.MAX);
        due.is("hits of MIN", hitsAfter(x, Due.MIN), 0);
        due.is("hits of 9, as of MIN", hitsAfter(x, 9), 1);
        due.is("hits of 10", hitsAfter(x, 10), 1);
        due.is("hits of 20, as of 10", hitsAfter(x, 20), 2);
        due.is("hits of 21", hitsAfter(x, 21), 2);
        due.is("hits of 29, as of 21", hitsAfter(x, 29), 3);
        due.is("hits of 30, by one around", hitsAfter(x, 30), 3);
        due.is("hits of MAX, as of 30", hitsAfter(x, Due.MAX), 4);
        due.is("count(0, 4)", x.count(0, 4), 4);
        x.arg(0, x.sample(5, 30));
        x.call(0);
        due.is("hits of another class", x.count(0, 3), 4);
        due.is("count(0, 4)", x.count(0, 4), 5);
    }

    private static void callWith(CallBoard x, int first, int second) {
        x.arg(0, first);
        x.arg(1, second);
        x.call(0);
    }

    private static void rememberingTwoPlaces() {
        CallBoard x = Due.closedBoard();
        x.function(2);
        int h = x.handler(0, 0, 0, false);
        x.test(h, 1, 0, 0);
        x.lay(h);
        x.sample(0, 0);
        x.sample(1, 0);
        x.sample(0, 1);
        x.sample(0, -1);
        callWith(x, 0, 0);
        due.is("count(0, 4)", x.count(0, 4), 1);
        callWith(x, 2, 0);
        due.is("count(0, 3), no pieces at the first place", x.count(0, 3), 1);
        callWith(x, 0, 2);
        due.is("count(0, 3), another piece", x.count(0, 3), 1);
        callWith(x, 0, 3);
        due.is("count(0, 3), another piece", x.count(0, 3), 1);
        callWith(x, 0, 1);
        due.is("count(0, 3), another class", x.count(0, 3), 1);
        callWith(x, 1, 0);
        due.is("count(0, 3), classes turned", x.count(0, 3), 1);
        due.is("count(0, 4)", x.count(0, 4), 5);
        callWith(x, 2, 1);
        due.is("count(0, 3)", x.count(0, 3), 2);
    }

    private static void forgetting() {
        CallBoard x = Due.closedBoard();
        x.function(1);
        x.function(1);
        x.sample(0, 0);
        x.arg(0, 0);
        int h = Due.lay(x, 0, 0, 0, -1);
        x.call(0);
        x.call(0);
        x.call(1);
        due.is("count(0, 3)", x.count(0, 3), 1);
        x.handler(0, 0, 0, true);
        due.is("count(0, 4), a handler is made", x.count(0, 4), 1);
        x.lay(1);
        due.is("count(0, 4), one is laid", x.count(0, 4), 0);
        due.is("count(0, 3), hits stay", x.count(0, 3), 1);
        due.is("count(1, 4) of another function", x.count(1, 4), 1);
        x.call(0);
        due.is("count(0, 3), looked for anew", x.count(0, 3), 1);
        x.lay(1);
        due.is("count(0, 4), a refusal", x.count(0, 4), 1);
        x.freeze(0, true);
        due.is("count(0, 4), frozen", x.count(0, 4), 1);
        x.freeze(0, false);
        x.lift(h);
        due.is("count(0, 4), one is lifted", x.count(0, 4), 0);
    }

    private static void counts() {
        CallBoard x = Due.closedBoard();
        x.function(2);
        x.handler(0, 0, 0, false);
        due.is("count(0, 0)", x.count(0, 0), 2);
        due.is("count(0, 1), making", x.count(0, 1), 0);
        due.is("count(-1, 0)", x.count(-1, 0), 1);
        due.is("count(-1, 1)", x.count(-1, 1), 1);
        due.is("count(0, 5)", x.count(0, 5), CallBoard.NUMBER);
        due.is("count(0, -1)", x.count(0, -1), CallBoard.NUMBER);
        due.is("count(-1, 5)", x.count(-1, 5), CallBoard.NUMBER);
        due.is("count(-1, -1)", x.count(-1, -1), CallBoard.NUMBER);
        due.is("count(1, 0)", x.count(1, 0), CallBoard.NUMBER);
        due.is("count(-2, 0)", x.count(-2, 0), CallBoard.NUMBER);
        due.is("count(4, 0)", x.count(4, 0), CallBoard.NUMBER);
    }
}

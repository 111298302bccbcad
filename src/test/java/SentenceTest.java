/** Sentences that name no boundary, and so have no place in the edge tests: a method for each of them. */
public final class SentenceTest {
    private static final Due due = new Due();

    public static void main(String[] args) {
        whatItIs();
        numberMeans();
        stateMeans();
        fullMeans();
        loopMeans();
        abstractMeans();
        classesMayBeAbstract();
        handlersKeepWhatTheyHave();
        placesHaveTheirOwn();
        callOfARow();
        runIsAStep();
        callsWithinAddOne();
        rememberedForEachFunction();
        belowAnswers();
        handlerComes();
        aboutAnswers();
        dominatesAnswers();
        callAnswers();
        explainAnswers();
        countOfAFunction();
        doubtAnswers();
        due.end();
    }

    // ---- what it is

    private static void whatItIs() {
        Run x = new Run(due, "What it is", "the handler that is more specific than all others that take these: classes and traits are "
            + "told as a table, handlers are laid down with classes and ranges of weights, call one another, stand around others, "
            + "and are proved to leave no gap and no doubt, or the first gap and the doubts are told.");
        x.does("parent(1, 0)", "has(2, 12)", "has(1, 12)");
        for (int c = 3; c < 12; c++) {
            x.does("flag(" + c + ")");
        }
        x.does("close()", "function(1)", "function(1)");
        x.lays(0, 0, 100, false, "0");
        x.lays(0, 6, 1, false, "12 MIN 9");
        x.lays(0, 0, -50, true, "-1");
        x.lays(1, 1, 1000, false, "-1");
        x.tells(0, 1, 10);
        x.is("call(0)", 0);
        x.is("value()", 100);
        x.tells(0, 2, 9);
        x.is("call(0)", 0);
        x.is("value()", 1010);
        x.tells(0, 2, -51);
        x.is("call(0)", 5);
        x.is("covered(1)", 1);
        x.is("covered(0)", 0);
        x.is("hole(0, 0)", 1);
        x.is("hole(0, 2)", Due.MIN);
        x.is("doubt(0, 0, 0)", 0);
        x.is("doubt(0, 0, 1)", 1);
        x.lays(0, 0, 200, false, "1");
        x.is("doubt(0, 0, 0)", Due.NO_PROOF);
        x.is("hole(0, 0)", 2);
        x.is("hole(0, 2)", 10);
        x.lays(0, 0, 300, false, "2");
        x.is("covered(0)", 1);
    }

    // ---- the constants

    private static void numberMeans() {
        Run x = due.term("`NUMBER = -2`: A number is none, or none that may be.");
        x.all(-2, "parent(12, 0)", "trait(0, 12)", "has(0, 0)", "flag(12)", "sample(12, 0)", "function(3)");
        x.does("close()", "function(1)", "handler(0, 0, 0, false)");
        x.all(-2, "handler(1, 0, 0, false)", "handler(0, 8, 0, false)", "place(1, 0, 0)", "place(0, 1, 0)", "place(0, 0, 16)");
        x.all(-2, "test(0, 0, 1, 0)", "lay(1)", "lift(1)", "freeze(1, true)", "about(1, 0)", "about(0, 11)");
        x.all(-2, "arg(0, 0)", "arg(2, 0)", "call(1)", "explain(1)", "count(1, 0)", "count(0, 5)", "covered(1)");
    }

    private static void stateMeans() {
        Run x = due.term("`STATE = -3`: THE TABLE is open, or CLOSED; a HANDLER or FUNCTION isn't as it must be.");
        x.all(-3, "sample(0, 0)", "function(1)");
        x.does("close()", "function(1)", "handler(0, 0, 0, false)", "handler(0, 0, 0, false)");
        x.all(-3, "close()", "parent(1, 0)", "trait(12, 13)", "has(0, 12)", "flag(0)");
        x.all(-3, "lift(0)", "call(0)", "explain(0)");
        x.does("lay(0)");
        x.all(-3, "lay(0)", "place(0, 0, 0)", "test(0, 0, 0, 0)");
        x.does("freeze(0, true)");
        x.all(-3, "lay(1)", "lift(0)");
    }

    private static void fullMeans() {
        Run x = due.term("`FULL = -4`: There are as many as may be.");
        x.does("close()", "function(1)", "function(1)", "function(1)", "function(1)");
        x.is("function(1)", -4);
        for (int h = 0; h < 40; h++) {
            x.makes(0, 0, 0, false, "-1 " + h + " " + h);
        }
        x.is("handler(0, 0, 0, false)", -4);
        for (int h = 0; h < 8; h++) {
            x.does("lay(" + h + ")");
        }
        x.is("lay(8)", -4);
        for (int s = 0; s < 300; s++) {
            x.does("sample(0, 0)");
        }
        x.is("sample(0, 0)", -4);
    }

    private static void loopMeans() {
        Run x = due.term("`LOOP = -5`: It would go round, or is there already.");
        x.does("parent(1, 0)", "parent(0, 1)");
        x.is("close()", -5);
        x.does("parent(0, -1)", "close()", "function(1)");
        x.lays(0, 0, 1, false, "1 2 3");
        int again = x.makes(0, 3, 9, false, "1 2 3");
        x.is("lay(" + again + ")", -5);
    }

    private static void abstractMeans() {
        Run x = due.term("`ABSTRACT = -6`: The CLASS is ABSTRACT.");
        x.does("flag(4)", "close()");
        x.is("sample(4, 0)", -6);
        x.is("sample(5, 0)", 0);
    }

    // ---- the terms

    private static void classesMayBeAbstract() {
        Run x = due.term("A CLASS may be ABSTRACT.");
        // What a class is below, or what is below it, has nothing to do with it.
        x.does("parent(1, 0)", "parent(2, 1)", "has(1, 12)", "flag(1)", "close()", "function(1)");
        x.is("sample(0, 0)", 0);
        x.is("sample(1, 0)", CallBoard.ABSTRACT);
        x.is("sample(2, 0)", 1);
        x.is("below(2, 1)", true);
        x.is("below(1, 12)", true);
        x.lays(0, 0, 6, false, "1");
        x.does("arg(0, 1)");
        x.is("call(0)", 0);
        x.is("value()", 6);
    }

    private static void handlersKeepWhatTheyHave() {
        Run x = due.term("each is of a FUNCTION, has for each PLACE a CODE or ANY (-1; at first) and a RANGE from a low to a high int "
            + "(at first from the least to the greatest), an ACTION with a VALUE, is AROUND or not, and is MAKING");
        x.does("close()", "function(1)", "function(1)");
        for (int h = 0; h < 16; h++) {
            x.makes(h % 2, h % 8, 100 - h * h, h < 8, h + " " + -h + " " + 2 * h);
        }
        for (int h = 0; h < 16; h += 3) {
            x.does("lay(" + h + ")");
        }
        x.does("lift(3)", "freeze(0, true)");
        for (int h = 0; h < 16; h++) {
            int[] want = {h % 2, h % 8, 100 - h * h, h < 8 ? 1 : 0, h % 3 != 0 ? 0 : h == 3 ? 2 : 1, h, 0, -h, 0, 2 * h, 0};
            for (int what = 0; what <= 10; what++) {
                x.is("about(" + h + ", " + what + ")", want[what]);
            }
        }
    }

    private static void placesHaveTheirOwn() {
        Run x = due.term("has for each PLACE");
        x.does("close()", "function(2)");
        x.makes(0, 0, 0, false, "3 -9 -8", "4 5 6");
        x.makes(0, 0, 0, false);
        x.does("place(1, 1, 7)", "test(1, 0, 20, 30)");
        int[] first = {3, 4, -9, 5, -8, 6};
        int[] second = {-1, 7, 20, Due.MIN, 30, Due.MAX};
        for (int what = 5; what <= 10; what++) {
            x.is("about(0, " + what + ")", first[what - 5]);
            x.is("about(1, " + what + ")", second[what - 5]);
        }
    }

    private static void callOfARow() {
        Run x = due.term("A CALL of a FUNCTION with a row of SAMPLES");
        x.does("close()", "function(2)", "function(1)");
        x.lays(0, 1, 0, false, "3", "4");
        x.lays(0, 0, 77, false, "4", "3");
        x.lays(0, 1, 5, false, "4", "4");
        x.lays(1, 1, 0, false, "-1");
        x.does("sample(3, 10)", "sample(4, 200)");
        int[][] rows = {{0, 1, 0, 210}, {1, 0, 0, 77}, {1, 1, 0, 405}, {0, 0, 1, 0}};
        for (int[] row : rows) {
            x.does("arg(0, " + row[0] + ")", "arg(1, " + row[1] + ")");
            x.is("call(0)", row[2]);
            x.is("value()", row[3]);
            x.is("call(1)", 0);
            x.is("value()", row[0] == 0 ? 10 : 200);
        }
    }

    private static void runIsAStep() {
        int[] outcomes = {0, 0, 0, 3, 0, 0, 4, 4};
        for (int action = 0; action < 8; action++) {
            Run x = due.term("To RUN a HANDLER h is a STEP, then by its ACTION");
            x.does("close()", "function(1)");
            x.makes(0, 0, 0, false, "9");
            x.lays(0, action, 0, false, "-1");
            x.tells(0, 5, 50);
            x.is("call(0)", outcomes[action]);
            int steps = outcomes[action] == 4 ? 12 : 1;
            for (int k = 0; k < steps; k++) {
                x.is("step(" + k + ")", 1);
            }
            x.is("step(" + steps + ")", -1);
            x.is("count(-1, 3)", steps);
        }
    }

    private static void callsWithinAddOne() {
        Run x = due.term("FAILED, the FAILURE is -2); the value is its value and 1.");
        x.does("close()", "function(1)", "function(1)", "function(1)");
        x.lays(0, 6, 1, false, "-1");
        x.lays(1, 7, 2, false, "-1");
        x.lays(2, 0, -40, false, "-1");
        x.tells(0, 5, 50);
        for (int f = 0; f < 3; f++) {
            x.is("call(" + f + ")", 0);
            x.is("value()", -38 - f);
            x.is("count(-1, 4)", 3 - f);
        }
    }

    private static void rememberedForEachFunction() {
        Run x = due.term("REMEMBERED is, for each FUNCTION, which rows of CLASSES and PIECES were CHOSEN for");
        x.does("close()", "function(1)", "function(1)");
        x.lays(0, 0, 0, false, "-1 0 MAX");
        for (int s = 0; s < 20; s++) {
            x.is("sample(" + s % 12 + ", " + (s < 12 ? 1 : -1) + ")", s);
        }
        for (int s = 0; s < 20; s++) {
            x.does("arg(0, " + s + ")", "call(0)", "call(1)");
            // Function 1 has no ranges, so the last samples aren't new to it.
            x.is("count(0, 4)", Math.min(s + 1, 16));
            x.is("count(1, 4)", Math.min(s + 1, 12));
            x.is("count(0, 3)", 0);
            x.is("count(1, 3)", Math.max(0, s - 11));
        }
        x.does("lift(0)");
        x.is("count(0, 4)", 0);
        x.is("count(1, 4)", 12);
    }

    // ---- the promises

    private static void belowAnswers() {
        Run x = due.promise(7, "Whether x is BELOW y");
        x.does("parent(1, 0)", "has(0, 12)", "trait(12, 14)", "close()");
        for (int a = 0; a < 16; a++) {
            for (int b = 0; b < 16; b++) {
                boolean up = a == 1 && (b == 0 || b == 12 || b == 14) || a == 0 && (b == 12 || b == 14) || a == 12 && b == 14;
                x.is("below(" + a + ", " + b + ")", a == b || up);
            }
        }
    }

    private static void handlerComes() {
        Run x = due.promise(12, "A HANDLER comes, MAKING: its number.");
        x.does("close()", "function(1)", "function(2)");
        x.tells(0, 0, 0);
        for (int h = 0; h < 10; h++) {
            x.is("handler(" + h % 2 + ", 0, " + h + ", false)", h);
            x.is("about(" + h + ", 4)", 0);
            x.is("count(-1, 1)", h + 1);
        }
        // None of them is laid, so none takes part in anything.
        x.is("call(0)", 1);
        x.all(0, "count(0, 1)", "count(1, 1)");
        x.all(-1, "order(0, 0)", "applicable(0, 0)", "most(0)");
    }

    private static void aboutAnswers() {
        Run x = due.promise(18, "Of a HANDLER: what = 0 its FUNCTION, 1 ACTION, 2 VALUE, 3 1 if it is AROUND, 4 0 MAKING, 1 LAID, "
            + "2 LIFTED, 5 and 6 its CODES at PLACES 0 and 1, 7 and 8 the lows, 9 and 10 the highs");
        x.does("close()", "function(1)", "function(2)");
        x.makes(1, 5, -6, true, "7 8 9", "10 11 12");
        for (int state = 0; state < 3; state++) {
            int[] want = {1, 5, -6, 1, state, 7, 10, 8, 11, 9, 12};
            for (int what = 0; what <= 10; what++) {
                x.is("about(0, " + what + ")", want[what]);
            }
            x.does(state == 0 ? "lay(0)" : state == 1 ? "lift(0)" : "freeze(1, true)");
        }
    }

    private static void dominatesAnswers() {
        Run x = due.promise(19, "Whether h is MORE SPECIFIC than g");
        x.does("parent(1, 0)", "parent(2, 1)", "close()", "function(2)");
        String[][] places = {{"-1", "-1"}, {"0", "-1"}, {"-1", "0"}, {"1", "0"}, {"1", "0 5 9"}, {"2", "0"}};
        for (String[] both : places) {
            x.makes(0, 0, 0, false, both);
        }
        String[] than = {"", "0", "0", "012", "0123", "0123"};
        for (int h = 0; h < 6; h++) {
            for (int g = 0; g < 6; g++) {
                x.is("dominates(" + h + ", " + g + ")", than[h].contains("" + g));
            }
        }
    }

    private static void callAnswers() {
        Run x = due.promise(22, "A CALL: 0 it has a value, 1 NONE, 2 DOUBT, 3 FAILED, 4 DEEP, 5 BARRED.");
        x.does("close()", "function(1)");
        x.lays(0, 0, 7, false, "0");
        x.lays(0, 0, 7, false, "2 0 5");
        x.lays(0, 0, 7, false, "2 5 9");
        x.lays(0, 3, 7, false, "3");
        x.lays(0, 6, 0, false, "4");
        x.lays(0, 0, 7, false, "5");
        x.lays(0, 0, 6, true, "5");
        for (int c = 0; c < 6; c++) {
            x.tells(0, c, 5);
            x.is("call(0)", c);
        }
    }

    private static void explainAnswers() {
        Run x = due.promise(29, "Why a HANDLER isn't CHOSEN for the told SAMPLES: 0 it is; 1 it isn't LAID; 2 it is AROUND; "
            + "3 it doesn't TAKE them; 4 another one that applicable() tells is MORE SPECIFIC; 5 none of these is, but it isn't CHOSEN.");
        x.does("parent(1, 0)", "has(1, 12)", "close()", "function(1)");
        x.lays(0, 0, 0, false, "1");
        x.makes(0, 0, 0, false, "1 5 5");
        x.lays(0, 0, 0, true, "1");
        x.lays(0, 0, 0, false, "1 6 9");
        x.lays(0, 0, 0, false, "0");
        x.tells(0, 1, 5);
        for (int h = 0; h < 5; h++) {
            x.is("explain(" + h + ")", h);
        }
        x.lays(0, 0, 0, false, "12");
        x.is("explain(5)", 4);
        x.does("lift(0)");
        x.is("explain(5)", 5);
        x.is("explain(4)", 5);
        // Other samples are told: the same handlers have other reasons.
        x.tells(0, 1, 6);
        x.is("explain(3)", 0);
        x.is("explain(4)", 4);
        x.tells(0, 0, 6);
        x.is("explain(4)", 0);
        x.is("explain(5)", 3);
    }

    private static void countOfAFunction() {
        Run x = due.promise(31, "Of a FUNCTION: what = 0 its PLACES, 1 LAID HANDLERS, 2 1 if it is FROZEN, 3 HITS");
        x.does("close()", "function(1)", "function(2)", "function(2)", "function(1)");
        x.tells(0, 0, 0);
        x.tells(1, 1, 0);
        for (int f = 0; f < 4; f++) {
            for (int h = 0; h < f; h++) {
                x.lays(f, 0, 0, false, "" + h);
            }
            for (int times = 0; times <= 2 * f; times++) {
                x.does("call(" + f + ")");
            }
        }
        x.does("freeze(2, true)");
        int[] places = {1, 2, 2, 1};
        for (int f = 0; f < 4; f++) {
            int[] want = {places[f], f, f == 2 ? 1 : 0, 2 * f, 1};
            for (int what = 0; what < 5; what++) {
                x.is("count(" + f + ", " + what + ")", want[what]);
            }
        }
    }

    private static void doubtAnswers() {
        Run x = due.promise(34, "that have a DOUBT: what = 0 g, 1 h, 2, 3 the CLASSES at PLACES 0 and 1 of the first one, 4, 5 the WEIGHTS");
        x.does("has(3, 12)", "has(4, 13)", "close()", "function(2)");
        x.makes(0, 0, 0, false, "3", "3");
        x.lays(0, 0, 0, false, "3 7 MAX", "13");
        x.lays(0, 0, 0, false, "5", "-1");
        x.lays(0, 0, 0, false, "12", "4 -6 MAX");
        long[] want = {1, 3, 3, 4, 7, -6};
        for (int what = 0; what < 6; what++) {
            x.is("doubt(0, 0, " + what + ")", want[what]);
        }
        x.is("doubt(0, 1, 0)", Due.NO_PROOF);
    }
}

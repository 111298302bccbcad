/** The edges of promises 27 to 30 and of CHOSEN: a method for each sentence. */
public final class ChoiceEdgeTest {
    private static final Due due = new Due();
    private static final String[] NO_FUNCTIONS = {"-1", "2", "3", "4", "MIN", "MAX"};

    public static void main(String[] args) {
        chosenAlone();
        chosenOfEachOther();
        applicableByNumbers();
        applicableOnlyPlain();
        applicableNone();
        applicableFull();
        applicableNotTold();
        mostChosen();
        mostNone();
        explainNumber();
        explainState();
        explainChosen();
        explainNotLaid();
        explainAround();
        explainNotTaking();
        explainLessSpecific();
        explainNotChosen();
        explainFirstThatIsSo();
        whereOfLatest();
        wherePlace();
        whereBetter();
        whereOther();
        whereElse();
        due.end();
    }

    /** Classes 2, 1, 0 below one another, 1 with trait 12; functions of one and of two places. */
    private static Run with(Run x) {
        x.does("parent(1, 0)", "parent(2, 1)", "has(1, 12)", "close()", "function(1)", "function(2)");
        return x;
    }

    private static void applicable(Run x, int f, int... want) {
        for (int k = 0; k < want.length; k++) {
            x.is("applicable(" + f + ", " + k + ")", want[k]);
        }
        x.is("applicable(" + f + ", " + want.length + ")", -1);
    }

    private static void explained(Run x, int h, int why, int where) {
        x.is("explain(" + h + ")", why);
        x.is("where()", where);
    }

    // ---- CHOSEN

    private static void chosenAlone() {
        Run x = with(due.term("(one alone is CHOSEN)"));
        x.tells(0, 2, 5);
        x.is("most(0)", -1);
        x.lays(0, 0, 0, false, "-1 5 5");
        x.is("most(0)", 0);
        explained(x, 0, 0, -1);
        x.is("call(0)", 0);
    }

    private static void chosenOfEachOther() {
        Run x = with(due.term("Of some HANDLERS the CHOSEN one is that which is MORE SPECIFIC than each other one of them"));
        x.tells(0, 2, 5);
        x.lays(0, 0, 0, false, "0");
        x.lays(0, 0, 0, false, "-1");
        x.is("most(0)", 0);
        // Nothing is more specific than 0 or 2, but neither is than the other.
        x.lays(0, 0, 0, false, "12");
        x.is("most(0)", -1);
        x.lays(0, 0, 0, false, "12 5 5");
        x.is("most(0)", -1);
        x.lays(0, 0, 0, false, "1");
        x.is("most(0)", 4);
        x.lays(0, 0, 0, false, "1 4 5");
        x.is("most(0)", 5);
        x.lays(0, 0, 0, false, "1 5 6");
        x.is("most(0)", -1);
        x.lays(0, 0, 0, false, "2");
        x.is("most(0)", 7);
    }

    // ---- promise 27

    private static void applicableByNumbers() {
        Run x = with(due.promise(27, "HANDLER k, by numbers"));
        x.tells(0, 2, 5);
        for (int h = 0; h < 3; h++) {
            x.makes(0, 0, 0, false, "" + (2 - h));
        }
        x.does("lay(2)", "lay(0)", "lay(1)");
        applicable(x, 0, 0, 1, 2);
        x.does("lift(1)");
        applicable(x, 0, 0, 2);
        x.lays(0, 0, 0, false, "1");
        applicable(x, 0, 0, 2, 3);
    }

    private static void applicableOnlyPlain() {
        Run x = with(due.promise(27, "of the LAID ones of a FUNCTION that aren't AROUND and TAKE the told SAMPLES"));
        x.tells(0, 2, 5);
        x.lays(0, 0, 0, true, "-1");
        x.makes(0, 0, 0, false, "2 4 5");
        x.lays(0, 0, 0, false, "2 5 6");
        x.does("lift(2)");
        x.lays(0, 0, 0, false, "3");
        x.lays(0, 0, 0, false, "2 6 6");
        x.lays(0, 0, 0, false, "2 4 4");
        applicable(x, 0);
        x.lays(0, 0, 0, false, "2 5 5");
        applicable(x, 0, 6);
        x.does("lay(1)");
        applicable(x, 0, 1, 6);
    }

    private static void applicableNone() {
        Run x = with(due.promise(27, "-1 if there is none such, no such FUNCTION"));
        x.tells(0, 2, 5);
        x.tells(1, 2, 5);
        x.is("applicable(0, 0)", -1);
        x.lays(0, 0, 0, false, "-1");
        x.lays(1, 0, 0, false, "-1", "-1");
        x.is("applicable(0, 0)", 0);
        x.is("applicable(1, 0)", 1);
        for (String k : new String[] {"-1", "1", "7", "8", "32", "MIN", "MAX"}) {
            x.is("applicable(0, " + k + ")", -1);
            x.is("applicable(1, " + k + ")", -1);
        }
        for (String f : NO_FUNCTIONS) {
            x.is("applicable(" + f + ", 0)", -1);
        }
    }

    private static void applicableFull() {
        Run x = due.promise(27, "HANDLER k, by numbers, of the LAID ones of a FUNCTION");
        for (int c = 1; c < 8; c++) {
            x.does("parent(" + c + ", " + (c - 1) + ")");
        }
        x.does("close()", "function(1)");
        x.tells(0, 7, 0);
        for (int c = 0; c < 8; c++) {
            x.lays(0, 0, 0, false, "" + c);
        }
        applicable(x, 0, 0, 1, 2, 3, 4, 5, 6, 7);
        x.is("most(0)", 7);
    }

    private static void applicableNotTold() {
        Run x = with(due.promise(27, "or no SAMPLE is told at one of its PLACES."));
        x.lays(0, 0, 0, false, "-1");
        x.lays(1, 0, 0, false, "-1", "-1");
        x.does("sample(2, 5)");
        x.all(-1, "applicable(0, 0)", "applicable(1, 0)");
        Run first = x.again();
        first.does("arg(0, 0)");
        first.is("applicable(0, 0)", 0);
        first.is("applicable(1, 0)", -1);
        first.does("arg(1, 0)");
        first.is("applicable(1, 0)", 1);
        Run second = x.again();
        second.does("arg(1, 0)");
        second.is("applicable(0, 0)", -1);
        second.is("applicable(1, 0)", -1);
    }

    // ---- promise 28

    private static void mostChosen() {
        Run x = with(due.promise(28, "The CHOSEN one of all that applicable() tells"));
        x.tells(0, 2, 5);
        x.lays(0, 0, 0, false, "0");
        x.lays(0, 0, 0, true, "2");
        x.makes(0, 0, 0, false, "2");
        x.lays(0, 0, 0, false, "2 6 9");
        x.is("most(0)", 0);
        x.does("lay(2)");
        x.is("most(0)", 2);
        x.tells(0, 2, 6);
        x.is("most(0)", 3);
        x.does("lift(3)");
        x.is("most(0)", 2);
    }

    private static void mostNone() {
        Run x = with(due.promise(28, "-1 if there is none."));
        x.all(-1, "most(0)", "most(1)");
        x.lays(1, 0, 0, false, "-1", "-1");
        x.lays(0, 0, 0, false, "-1 0 5");
        x.all(-1, "most(0)", "most(1)");
        x.tells(0, 2, 5);
        x.is("most(0)", 1);
        x.is("most(1)", -1);
        x.tells(1, 2, 5);
        x.is("most(1)", 0);
        for (String f : NO_FUNCTIONS) {
            x.is("most(" + f + ")", -1);
        }
        x.lays(0, 0, 0, false, "-1 5 9");
        x.is("most(0)", -1);
        x.tells(0, 2, 10);
        x.is("most(0)", -1);
    }

    // ---- promise 29

    private static void explainNumber() {
        Run x = with(due.promise(29, "NUMBER: there is no such HANDLER"));
        x.tells(0, 2, 5);
        x.refused("explain(0)", CallBoard.NUMBER);
        x.lays(0, 0, 0, false, "-1");
        x.lays(0, 0, 0, false, "3");
        explained(x, 1, 3, 0);
        for (String h : new String[] {"-1", "2", "39", "40", "MIN", "MAX"}) {
            x.refused("explain(" + h + ")", CallBoard.NUMBER);
        }
        x.is("where()", 0);
        for (int h = 2; h < 40; h++) {
            x.does("handler(0, 0, 0, false)");
        }
        explained(x, 39, 1, -1);
        x.refused("explain(40)", CallBoard.NUMBER);
    }

    private static void explainState() {
        Run x = with(due.promise(29, "STATE: no SAMPLE is told at a PLACE of its FUNCTION."));
        x.lays(0, 0, 0, false, "3");
        x.lays(1, 0, 0, false, "-1", "3");
        x.does("sample(2, 5)");
        x.refused("explain(0)", CallBoard.STATE);
        x.refused("explain(1)", CallBoard.STATE);
        x.is("explain(2)", CallBoard.NUMBER);
        // A refusal comes ahead of every reason.
        Run making = x.again();
        making.makes(1, 0, 0, true, "3", "3");
        making.refused("explain(2)", CallBoard.STATE);
        Run first = x.again();
        first.does("arg(0, 0)");
        explained(first, 0, 3, 0);
        first.refused("explain(1)", CallBoard.STATE);
        first.is("where()", 0);
        first.does("arg(1, 0)");
        explained(first, 1, 3, 1);
        Run second = x.again();
        second.does("arg(1, 0)");
        second.refused("explain(0)", CallBoard.STATE);
        second.refused("explain(1)", CallBoard.STATE);
    }

    private static void explainChosen() {
        Run x = with(due.promise(29, "0 it is"));
        x.tells(0, 2, 5);
        x.lays(0, 0, 0, false, "0");
        explained(x, 0, 0, -1);
        x.lays(0, 0, 0, false, "-1");
        explained(x, 0, 0, -1);
        x.lays(0, 0, Due.MAX, true, "2");
        explained(x, 0, 0, -1);
        x.lays(0, 0, 0, false, "2 6 6");
        explained(x, 0, 0, -1);
    }

    private static void explainNotLaid() {
        Run x = with(due.promise(29, "1 it isn't LAID"));
        x.tells(0, 2, 5);
        x.makes(0, 0, 0, false, "2");
        explained(x, 0, 1, -1);
        x.does("lay(0)");
        explained(x, 0, 0, -1);
        x.does("lift(0)");
        explained(x, 0, 1, -1);
    }

    private static void explainAround() {
        Run x = with(due.promise(29, "2 it is AROUND"));
        x.tells(0, 2, 5);
        x.lays(0, 0, 0, true, "2");
        explained(x, 0, 2, -1);
        x.lays(0, 0, 0, true, "3");
        explained(x, 1, 2, -1);
    }

    private static void explainNotTaking() {
        Run x = with(due.promise(29, "3 it doesn't TAKE them"));
        x.lays(0, 0, 0, false, "1 -5 5");
        int[] weights = {-6, -5, 5, 6, Due.MIN, Due.MAX};
        for (int weight : weights) {
            x.tells(0, 2, weight);
            x.is("explain(0)", weight == -5 || weight == 5 ? 0 : 3);
        }
        x.tells(0, 0, 0);
        x.is("explain(0)", 3);
    }

    private static void explainLessSpecific() {
        Run x = with(due.promise(29, "4 another one that applicable() tells is MORE SPECIFIC"));
        x.tells(0, 2, 5);
        x.lays(0, 0, 0, false, "0");
        x.makes(0, 0, 0, false, "2");
        x.lays(0, 0, 0, true, "2");
        x.lays(0, 0, 0, false, "2 6 6");
        x.is("explain(0)", 0);
        x.does("lay(1)");
        explained(x, 0, 4, 1);
        x.does("lift(1)");
        x.is("explain(0)", 0);
    }

    private static void explainNotChosen() {
        Run x = with(due.promise(29, "5 none of these is, but it isn't CHOSEN."));
        x.tells(0, 2, 5);
        x.lays(0, 0, 0, false, "0");
        x.lays(0, 0, 0, false, "12");
        explained(x, 0, 5, 1);
        explained(x, 1, 5, 0);
        x.lays(0, 0, 0, false, "-1");
        explained(x, 0, 5, 1);
        explained(x, 2, 4, 0);
        x.does("lift(1)");
        explained(x, 0, 0, -1);
    }

    private static void explainFirstThatIsSo() {
        Run x = with(due.promise(29, "The first of these that is so is answered."));
        x.tells(0, 2, 5);
        // Each handler has all reasons behind its own one, as far as these go together.
        x.makes(0, 0, 0, true, "3");
        explained(x, 0, 1, -1);
        x.lays(0, 0, 0, true, "3 6 6");
        explained(x, 1, 2, -1);
        x.makes(0, 0, 0, false, "3 7 7");
        explained(x, 2, 1, -1);
        x.lays(0, 0, 0, false, "0 6 9");
        x.lays(0, 0, 0, false, "2");
        explained(x, 3, 3, 0);
        x.lays(0, 0, 0, false, "12");
        x.lays(0, 0, 0, false, "0");
        explained(x, 5, 4, 4);
        explained(x, 6, 4, 4);
        x.does("lift(4)");
        explained(x, 5, 5, 6);
        explained(x, 4, 1, -1);
    }

    // ---- promise 30

    private static void whereOfLatest() {
        Run x = with(due.promise(30, "Of the latest explain() that wasn't refused"));
        x.is("where()", -1);
        x.is("explain(0)", CallBoard.NUMBER);
        x.is("where()", -1);
        x.lays(0, 0, 0, false, "0");
        x.lays(0, 0, 0, false, "1");
        x.lays(1, 0, 0, false, "-1", "-1");
        x.is("explain(0)", CallBoard.STATE);
        x.is("where()", -1);
        x.tells(0, 2, 5);
        explained(x, 0, 4, 1);
        x.refused("explain(2)", CallBoard.STATE);
        x.refused("explain(3)", CallBoard.NUMBER);
        x.is("where()", 1);
        // It is what was so then.
        x.does("lift(1)", "call(0)");
        x.is("where()", 1);
        x.tells(0, 3, 5);
        x.is("where()", 1);
        explained(x, 0, 3, 0);
    }

    private static void wherePlace() {
        Run x = with(due.promise(30, "by 3 the first PLACE"));
        x.lays(1, 0, 0, false, "1 0 9", "0 10 19");
        int[][] rows = {{3, 0, 0, 10}, {1, 10, 0, 10}, {1, 0, 3, 10}, {1, 0, 0, 9}, {1, 0, 0, 20}, {3, 0, 3, 0}, {1, -1, 0, 9}};
        int[] places = {0, 0, 1, 1, 1, 0, 0};
        for (int k = 0; k < rows.length; k++) {
            x.tells(0, rows[k][0], rows[k][1]);
            x.tells(1, rows[k][2], rows[k][3]);
            explained(x, 0, 3, places[k]);
        }
        x.tells(0, 2, 9);
        x.tells(1, 1, 19);
        explained(x, 0, 0, -1);
    }

    private static void whereBetter() {
        Run x = with(due.promise(30, "by 4 the least such HANDLER"));
        x.tells(0, 2, 5);
        x.makes(0, 0, 0, false, "2");
        x.lays(0, 0, 0, false, "-1");
        x.lays(0, 0, 0, true, "0");
        x.lays(0, 0, 0, false, "0 6 6");
        x.lays(0, 0, 0, false, "0");
        x.lays(0, 0, 0, false, "1");
        explained(x, 1, 4, 4);
        explained(x, 4, 4, 5);
        x.does("lay(0)");
        explained(x, 1, 4, 0);
        explained(x, 4, 4, 0);
        explained(x, 5, 4, 0);
        x.does("lift(0)", "lift(4)");
        explained(x, 1, 4, 5);
    }

    private static void whereOther() {
        Run x = with(due.promise(30, "by 5 the least other one that applicable() tells and than which it isn't MORE SPECIFIC"));
        x.tells(0, 2, 5);
        x.lays(0, 0, 0, false, "-1");
        x.lays(0, 0, 0, true, "12");
        x.lays(0, 0, 0, false, "12 6 6");
        x.lays(0, 0, 0, false, "1 0 5");
        x.lays(0, 0, 0, false, "1 5 9");
        x.lays(0, 0, 0, false, "1 4 6");
        explained(x, 3, 5, 4);
        explained(x, 4, 5, 3);
        explained(x, 5, 5, 3);
        x.does("lift(3)");
        explained(x, 5, 5, 4);
        explained(x, 4, 5, 5);
    }

    private static void whereElse() {
        Run x = with(due.promise(30, "-1 in all other cases."));
        x.tells(0, 2, 5);
        x.makes(0, 0, 0, false, "1");
        x.lays(0, 0, 0, true, "1");
        x.lays(0, 0, 0, false, "2");
        x.lays(0, 0, 0, false, "0");
        for (int h = 0; h < 3; h++) {
            explained(x, 3, 4, 2);
            explained(x, h, h == 0 ? 1 : h == 1 ? 2 : 0, -1);
        }
    }
}

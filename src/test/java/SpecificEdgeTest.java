/** The edges of promises 19 and 20, and of TAKES, NARROWER, the SAME, MORE SPECIFIC and ORDER. */
public final class SpecificEdgeTest {
    private static final Due due = new Due();

    public static void main(String[] args) {
        takesWeights();
        takesWeightsAtEnds();
        takesCodes();
        takesAtEachPlace();
        narrowerByCode();
        narrowerThanAny();
        narrowerByRange();
        narrowerByRangeAtEnds();
        rangesOfOtherCodes();
        sameAtPlaces();
        specificAtEachPlace();
        specificOfOneFunction();
        dominatesWhateverState();
        dominatesNone();
        orderByNumbers();
        orderHoldsBack();
        orderOfLaid();
        orderNone();
        orderFull();
        due.end();
    }

    // ---- TAKES

    private static void taken(Run x, int c, int weight, boolean want) {
        x.tells(0, c, weight);
        x.is("applicable(0, 0)", want ? 0 : -1);
        x.is("explain(0)", want ? 0 : 3);
        x.is("call(0)", want ? 0 : 1);
    }

    private static void takesWeights() {
        Run x = due.term("and the WEIGHT is in the RANGE.");
        x.does("close()", "function(1)");
        x.lays(0, 0, 0, false, "-1 -5 9");
        taken(x, 0, -6, false);
        taken(x, 0, -5, true);
        taken(x, 0, 0, true);
        taken(x, 0, 9, true);
        taken(x, 0, 10, false);
        taken(x, 0, Due.MIN, false);
        taken(x, 0, Due.MAX, false);
    }

    private static void takesWeightsAtEnds() {
        String words = "and the WEIGHT is in the RANGE.";
        Run all = due.term(words);
        all.does("close()", "function(1)");
        all.lays(0, 0, 0, false, "-1");
        taken(all, 0, Due.MIN, true);
        taken(all, 0, Due.MAX, true);
        Run least = due.term(words);
        least.does("close()", "function(1)");
        least.lays(0, 0, 0, false, "-1 MIN MIN");
        taken(least, 0, Due.MIN, true);
        taken(least, 0, Due.MIN + 1, false);
        taken(least, 0, Due.MAX, false);
        Run greatest = due.term(words);
        greatest.does("close()", "function(1)");
        greatest.lays(0, 0, 0, false, "-1 MAX MAX");
        taken(greatest, 0, Due.MAX, true);
        taken(greatest, 0, Due.MAX - 1, false);
        taken(greatest, 0, Due.MIN, false);
    }

    private static void takesCodes() {
        String words = "if at each PLACE it has ANY or the SAMPLE's CLASS is BELOW its CODE";
        for (int code = -1; code < 16; code++) {
            Run x = due.term(words);
            x.does("parent(1, 0)", "parent(2, 1)", "has(1, 12)", "trait(12, 13)", "has(11, 15)", "flag(0)", "close()");
            x.does("function(1)");
            x.lays(0, 0, 0, false, "" + code);
            for (int c = 1; c < 12; c++) {
                boolean byParent = code == 0 && c <= 2 || code == 1 && c == 2;
                boolean byTrait = (code == 12 || code == 13) && c <= 2 || code == 15 && c == 11;
                taken(x, c, 0, code == -1 || code == c || byParent || byTrait);
            }
        }
    }

    private static void takesAtEachPlace() {
        Run x = due.term("A HANDLER TAKES a row of SAMPLES (one for each PLACE) if at each PLACE");
        x.does("close()", "function(2)");
        x.lays(0, 0, 0, false, "3 0 9", "4 10 19");
        int[][] rows = {{3, 0, 4, 10}, {3, 9, 4, 19}, {2, 0, 4, 10}, {3, 0, 5, 10}, {3, 10, 4, 10}, {3, -1, 4, 10},
            {3, 0, 4, 9}, {3, 9, 4, 20}, {4, 10, 3, 0}};
        for (int k = 0; k < rows.length; k++) {
            int[] row = rows[k];
            x.tells(0, row[0], row[1]);
            x.tells(1, row[2], row[3]);
            x.is("applicable(0, 0)", k < 2 ? 0 : -1);
            x.is("call(0)", k < 2 ? 0 : 1);
        }
    }

    // ---- NARROWER and MORE SPECIFIC

    /** Whether handlers with such places would be more specific one than the other, both ways. */
    private static void compare(Run base, String[] one, String[] other, boolean forth, boolean back) {
        Run x = base.again();
        x.makes(0, 0, 0, false, one);
        x.makes(0, 0, 0, false, other);
        x.is("dominates(0, 1)", forth);
        x.is("dominates(1, 0)", back);
    }

    private static void compare(Run base, String one, String other, boolean forth, boolean back) {
        compare(base, new String[] {one}, new String[] {other}, forth, back);
    }

    private static void tableOf(Run x, int places) {
        x.does("parent(1, 0)", "parent(2, 1)", "has(1, 12)", "trait(12, 13)", "close()", "function(" + places + ")");
    }

    private static void narrowerByCode() {
        Run x = due.term("its CODE is BELOW the other's and another one than that");
        tableOf(x, 1);
        compare(x, "1", "0", true, false);
        compare(x, "2", "0", true, false);
        compare(x, "2", "13", true, false);
        compare(x, "12", "13", true, false);
        compare(x, "12", "0", false, false);
        compare(x, "3", "0", false, false);
        compare(x, "1", "1", false, false);
        compare(x, "15", "14", false, false);
    }

    private static void narrowerThanAny() {
        Run x = due.term("(each CODE is so to ANY)");
        tableOf(x, 1);
        for (int code = 0; code < 16; code++) {
            compare(x, "" + code, "-1", true, false);
            compare(x, code + " MIN MAX", "-1 5 5", true, false);
        }
        compare(x, "-1", "-1", false, false);
    }

    private static void narrowerByRange() {
        Run x = due.term("or both have the same (or ANY both) and its RANGE is within the other's and not the same.");
        tableOf(x, 1);
        for (String code : new String[] {"-1", "0", "11", "12", "15"}) {
            compare(x, code + " 5 9", code + " 4 10", true, false);
            compare(x, code + " 5 9", code + " 5 10", true, false);
            compare(x, code + " 5 9", code + " 4 9", true, false);
            compare(x, code + " 5 9", code + " 5 9", false, false);
            compare(x, code + " 5 9", code + " 6 10", false, false);
            compare(x, code + " 5 9", code + " 9 12", false, false);
            compare(x, code + " 5 9", code + " 10 12", false, false);
            compare(x, code + " 7 7", code + " 7 8", true, false);
        }
    }

    private static void narrowerByRangeAtEnds() {
        Run x = due.term("its RANGE is within the other's and not the same.");
        tableOf(x, 1);
        compare(x, "-1 MIN 2147483646", "-1", true, false);
        compare(x, "-1 -2147483647 MAX", "-1", true, false);
        compare(x, "-1 MIN MIN", "-1", true, false);
        compare(x, "-1 MAX MAX", "-1", true, false);
        compare(x, "-1 MIN MIN", "-1 MAX MAX", false, false);
        compare(x, "-1 MIN 0", "-1 0 MAX", false, false);
        compare(x, "-1 MIN MAX", "-1", false, false);
    }

    private static void rangesOfOtherCodes() {
        Run x = due.term("At a PLACE a HANDLER is NARROWER than another one if its CODE is BELOW the other's");
        tableOf(x, 1);
        compare(x, "1 MIN MAX", "0 5 5", true, false);
        compare(x, "1 0 9", "0 100 109", true, false);
        compare(x, "3 5 5", "0 MIN MAX", false, false);
        compare(x, "-1 5 5", "0 MIN MAX", false, true);
    }

    private static void sameAtPlaces() {
        Run x = due.term("Two are the SAME at a PLACE if they have the same CODE (or ANY) and the same RANGE.");
        tableOf(x, 2);
        String[] narrow = {"2", "1 5 9"};
        compare(x, narrow, new String[] {"0", "1 5 9"}, true, false);
        compare(x, narrow, new String[] {"0", "3 5 9"}, false, false);
        compare(x, narrow, new String[] {"0", "1 6 9"}, false, false);
        compare(x, narrow, new String[] {"0", "1 5 8"}, false, false);
        compare(x, narrow, new String[] {"0", "2 5 9"}, false, false);
        compare(x, new String[] {"2", "-1 5 9"}, new String[] {"0", "-1 5 9"}, true, false);
        compare(x, new String[] {"2", "-1 5 9"}, new String[] {"0", "-1 6 10"}, false, false);
    }

    private static void specificAtEachPlace() {
        Run x = due.term("if at each PLACE it is NARROWER or the SAME, and NARROWER at one at least.");
        tableOf(x, 2);
        compare(x, new String[] {"1", "3"}, new String[] {"0", "3"}, true, false);
        compare(x, new String[] {"3", "1"}, new String[] {"3", "0"}, true, false);
        compare(x, new String[] {"1", "2"}, new String[] {"0", "1"}, true, false);
        compare(x, new String[] {"1", "2"}, new String[] {"1", "2"}, false, false);
        compare(x, new String[] {"1", "0"}, new String[] {"0", "1"}, false, false);
        compare(x, new String[] {"1", "3"}, new String[] {"0", "4"}, false, false);
        compare(x, new String[] {"3", "1"}, new String[] {"4", "0"}, false, false);
        compare(x, new String[] {"-1 5 6", "-1 5 6"}, new String[] {"-1 5 6", "-1 5 7"}, true, false);
        compare(x, new String[] {"-1 5 6", "-1 5 6"}, new String[] {"-1 4 6", "-1 5 6"}, true, false);
    }

    private static void specificOfOneFunction() {
        Run x = due.term("h is MORE SPECIFIC than g, of the same FUNCTION");
        x.does("parent(1, 0)", "close()", "function(1)", "function(1)", "function(2)");
        x.makes(0, 0, 0, false, "1");
        x.makes(1, 0, 0, false, "0");
        x.makes(2, 0, 0, false, "0", "-1");
        x.makes(0, 0, 0, false, "0");
        x.is("dominates(0, 1)", false);
        x.is("dominates(0, 2)", false);
        x.is("dominates(2, 1)", false);
        x.is("dominates(0, 3)", true);
    }

    // ---- promise 19

    private static void dominatesWhateverState() {
        Run x = due.promise(19, "(whether they are LAID or not");
        x.does("parent(1, 0)", "close()", "function(1)");
        x.makes(0, 0, 0, false, "1");
        x.makes(0, 0, 0, true, "0");
        x.is("dominates(0, 1)", true);
        x.does("lay(0)");
        x.is("dominates(0, 1)", true);
        x.does("lay(1)");
        x.is("dominates(0, 1)", true);
        x.does("lift(0)");
        x.is("dominates(0, 1)", true);
        x.does("lift(1)");
        x.is("dominates(0, 1)", true);
        x.is("dominates(1, 0)", false);
    }

    private static void dominatesNone() {
        Run x = due.promise(19, "false if they are of two FUNCTIONS, or one isn't there");
        x.is("dominates(0, 0)", false);
        x.does("parent(1, 0)", "close()", "function(1)", "function(1)");
        x.makes(0, 0, 0, false, "1");
        x.makes(0, 0, 0, false, "0");
        x.makes(1, 0, 0, false, "-1");
        x.is("dominates(0, 1)", true);
        x.is("dominates(0, 2)", false);
        x.is("dominates(0, 0)", false);
        for (String h : new String[] {"-1", "3", "39", "40", "MIN", "MAX"}) {
            x.is("dominates(0, " + h + ")", false);
            x.is("dominates(" + h + ", 1)", false);
            x.is("dominates(" + h + ", " + h + ")", false);
        }
        for (int h = 3; h < 40; h++) {
            x.makes(0, 0, 0, false);
        }
        x.is("dominates(0, 39)", true);
        x.is("dominates(39, 0)", false);
        x.is("dominates(0, 40)", false);
    }

    // ---- ORDER and promise 20

    private static void ordered(Run x, int... want) {
        for (int k = 0; k < want.length; k++) {
            x.is("order(0, " + k + ")", want[k]);
        }
        x.is("order(0, " + want.length + ")", -1);
    }

    private static void orderByNumbers() {
        Run x = due.term("each time the least number of those left than which none left is MORE SPECIFIC.");
        x.does("close()", "function(1)");
        for (int h = 0; h < 3; h++) {
            x.makes(0, 0, 0, false, "" + h);
        }
        x.does("lay(2)", "lay(0)", "lay(1)");
        ordered(x, 0, 1, 2);
    }

    private static void orderHoldsBack() {
        Run x = due.term("each time the least number of those left than which none left is MORE SPECIFIC.");
        x.does("parent(1, 0)", "parent(2, 1)", "close()", "function(1)");
        x.lays(0, 0, 0, false, "-1");
        x.lays(0, 0, 0, false, "0");
        x.lays(0, 0, 0, false, "5");
        x.lays(0, 0, 0, false, "1");
        ordered(x, 2, 3, 1, 0);
        // 1 is free behind 3, though 4 of a greater number was free before.
        x.lays(0, 0, 0, false, "6");
        ordered(x, 2, 3, 1, 4, 0);
    }

    private static void orderOfLaid() {
        Run x = due.term("ORDER of a FUNCTION: its LAID HANDLERS");
        x.does("parent(1, 0)", "close()", "function(1)", "function(1)");
        x.lays(0, 0, 0, false, "0");
        x.makes(0, 0, 0, false, "1");
        x.lays(1, 0, 0, false, "1");
        ordered(x, 0);
        x.does("lay(1)");
        ordered(x, 1, 0);
        x.is("order(1, 0)", 2);
        x.is("order(1, 1)", -1);
        x.does("lift(1)");
        ordered(x, 0);
        x.lays(0, 0, 0, true, "1");
        ordered(x, 3, 0);
        x.does("lift(0)", "lift(3)");
        ordered(x);
    }

    private static void orderNone() {
        Run x = due.promise(20, "-1 if there is none such.");
        x.all(-1, "order(0, 0)", "order(-1, 0)", "order(4, 0)");
        x.does("close()", "function(1)");
        x.is("order(0, 0)", -1);
        x.makes(0, 0, 0, false);
        x.is("order(0, 0)", -1);
        x.does("lay(0)");
        x.is("order(0, 0)", 0);
        for (String k : new String[] {"-1", "1", "7", "8", "9", "MIN", "MAX"}) {
            x.is("order(0, " + k + ")", -1);
        }
        for (String f : new String[] {"-1", "1", "3", "4", "MIN", "MAX"}) {
            x.is("order(" + f + ", 0)", -1);
        }
    }

    private static void orderFull() {
        Run x = due.promise(20, "HANDLER k (from 0 on) in ORDER of a FUNCTION");
        for (int c = 1; c < 8; c++) {
            x.does("parent(" + c + ", " + (c - 1) + ")");
        }
        x.does("close()", "function(1)");
        for (int c = 0; c < 8; c++) {
            x.lays(0, 0, 0, false, "" + c);
        }
        ordered(x, 7, 6, 5, 4, 3, 2, 1, 0);
        x.is("order(0, 8)", -1);
        x.does("lift(3)");
        ordered(x, 7, 6, 5, 4, 2, 1, 0);
    }
}

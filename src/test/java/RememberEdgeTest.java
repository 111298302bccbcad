/** The edges of promise 31 and of part 4 of the terms: a method for each sentence. */
public final class RememberEdgeTest {
    private static final Due due = new Due();

    public static void main(String[] args) {
        pieces();
        piecesAtEnds();
        piecesWithout();
        piecesOfLaid();
        piecesAtBothPlaces();
        rowsOfClasses();
        whateverComesOfIt();
        onlyChoosing();
        callsWithin();
        sixteenRows();
        longestAgo();
        hitsMakeYoung();
        laidOrLifted();
        countOfFunction();
        countOfAll();
        countOfAllLatest();
        countDeepest();
        countNumber();
        due.end();
    }

    /** Calls function 0 with a new sample; that row is a hit just if it should be. */
    private static void look(Run x, int c, int weight, int hits, int remembered) {
        x.tells(0, c, weight);
        x.does("call(0)");
        x.is("count(0, 3)", hits);
        x.is("count(0, 4)", remembered);
    }

    private static void pieces() {
        Run x = due.term("the least low, or high and 1, of a RANGE of its LAID HANDLERS that is above the WEIGHT");
        x.does("close()", "function(1)");
        x.lays(0, 0, 0, false, "-1 10 20");
        x.lays(0, 0, 0, false, "-1 15 30");
        look(x, 0, 9, 0, 1);
        look(x, 0, Due.MIN, 1, 1);
        look(x, 0, 10, 1, 2);
        look(x, 0, 14, 2, 2);
        look(x, 0, 15, 2, 3);
        look(x, 0, 20, 3, 3);
        look(x, 0, 21, 3, 4);
        look(x, 0, 30, 4, 4);
        look(x, 0, 31, 4, 5);
        look(x, 0, Due.MAX, 5, 5);
        look(x, 0, 12, 6, 5);
    }

    private static void piecesAtEnds() {
        Run x = due.term("(2^31 if there is none)");
        x.does("close()", "function(1)");
        x.lays(0, 0, 0, false, "-1 MIN MIN");
        x.lays(0, 0, 0, false, "-1 MAX MAX");
        look(x, 0, Due.MIN, 0, 1);
        look(x, 0, Due.MIN + 1, 0, 2);
        look(x, 0, Due.MAX - 1, 1, 2);
        look(x, 0, 0, 2, 2);
        look(x, 0, Due.MAX, 2, 3);
        look(x, 0, Due.MAX, 3, 3);
        look(x, 0, Due.MIN, 4, 3);
    }

    private static void piecesWithout() {
        Run x = due.term("(2^31 if there is none)");
        x.does("close()", "function(1)");
        look(x, 0, Due.MIN, 0, 1);
        look(x, 0, Due.MAX, 1, 1);
        look(x, 0, 0, 2, 1);
        x.lays(0, 0, 0, false, "-1");
        look(x, 0, Due.MIN, 2, 1);
        look(x, 0, Due.MAX, 3, 1);
        // A range that ends with the greatest int has nothing above that.
        x.lays(0, 0, 0, false, "-1 5 MAX");
        look(x, 0, 4, 3, 1);
        look(x, 0, 5, 3, 2);
        look(x, 0, Due.MAX, 4, 2);
    }

    private static void piecesOfLaid() {
        Run x = due.term("of a RANGE of its LAID HANDLERS that is above the WEIGHT");
        x.does("close()", "function(1)", "function(1)");
        x.lays(0, 0, 0, false, "5 10 20");
        x.lays(0, 0, Due.MIN, true, "6 40 50");
        x.makes(0, 0, 0, false, "-1 60 70");
        x.lays(0, 0, 0, false, "-1 80 90");
        x.does("lift(3)");
        x.lays(1, 0, 0, false, "-1 100 110");
        // Ranges cut for all classes, and those of handlers around do too.
        look(x, 0, 9, 0, 1);
        look(x, 0, 10, 0, 2);
        look(x, 0, 21, 0, 3);
        look(x, 0, 39, 1, 3);
        look(x, 0, 40, 1, 4);
        look(x, 0, 51, 1, 5);
        look(x, 0, 65, 2, 5);
        look(x, 0, 85, 3, 5);
        look(x, 0, 105, 4, 5);
    }

    private static void lookTwo(Run x, int[] row, int hits, int remembered) {
        x.tells(1, row[2], row[3]);
        look(x, row[0], row[1], hits, remembered);
    }

    private static void piecesAtBothPlaces() {
        Run x = due.term("PIECES being, at each PLACE");
        x.does("close()", "function(2)");
        x.lays(0, 0, 0, false, "-1 10 19", "-1 5 14");
        lookTwo(x, new int[] {0, 10, 0, 5}, 0, 1);
        lookTwo(x, new int[] {0, 19, 0, 14}, 1, 1);
        lookTwo(x, new int[] {0, 9, 0, 5}, 1, 2);
        lookTwo(x, new int[] {0, 10, 0, 4}, 1, 3);
        lookTwo(x, new int[] {0, 9, 0, 4}, 1, 4);
        lookTwo(x, new int[] {0, 20, 0, 5}, 1, 5);
        lookTwo(x, new int[] {0, 10, 0, 15}, 1, 6);
        lookTwo(x, new int[] {0, 5, 0, 10}, 2, 6);
        lookTwo(x, new int[] {0, Due.MAX, 0, Due.MAX}, 2, 7);
        lookTwo(x, new int[] {0, 20, 0, 15}, 3, 7);
    }

    private static void rowsOfClasses() {
        Run x = due.term("which rows of CLASSES and PIECES were CHOSEN for");
        x.does("parent(1, 0)", "close()", "function(2)");
        x.lays(0, 0, 0, false, "0", "0");
        lookTwo(x, new int[] {0, 0, 1, 0}, 0, 1);
        lookTwo(x, new int[] {1, 0, 0, 0}, 0, 2);
        lookTwo(x, new int[] {0, 0, 0, 0}, 0, 3);
        lookTwo(x, new int[] {0, 0, 11, 0}, 0, 4);
        lookTwo(x, new int[] {11, 0, 0, 0}, 0, 5);
        lookTwo(x, new int[] {1, 0, 11, 0}, 0, 6);
        lookTwo(x, new int[] {1, 9, 0, -9}, 1, 6);
    }

    private static void whateverComesOfIt() {
        Run x = due.term("Each CALL that comes to choosing among those that aren't AROUND (whatever comes of it) looks for its row");
        x.does("close()", "function(1)");
        x.tells(0, 0, 5);
        x.is("call(0)", 1);
        x.is("count(0, 4)", 1);
        x.is("call(0)", 1);
        x.is("count(0, 3)", 1);
        x.lays(0, 0, 0, false, "0 0 5");
        x.lays(0, 3, 0, false, "0 5 9");
        x.is("call(0)", 2);
        x.is("call(0)", 2);
        x.is("count(0, 3)", 2);
        x.is("count(0, 4)", 1);
        x.tells(0, 0, 6);
        x.is("call(0)", 3);
        x.is("call(0)", 3);
        x.is("count(0, 3)", 3);
        x.is("count(0, 4)", 2);
    }

    private static void onlyChoosing() {
        Run x = due.term("Each CALL that comes to choosing");
        x.does("close()", "function(1)", "function(2)");
        x.tells(0, 0, 5);
        x.lays(0, 0, 6, true, "-1");
        x.lays(0, 0, 0, false, "-1");
        x.is("call(0)", 5);
        x.is("call(0)", 5);
        x.is("call(1)", CallBoard.STATE);
        x.is("call(2)", CallBoard.NUMBER);
        x.does("most(0)", "applicable(0, 0)", "explain(1)", "covered(0)");
        x.all(0, "count(0, 3)", "count(0, 4)", "count(1, 3)", "count(1, 4)");
        x.does("lift(0)");
        x.is("call(0)", 0);
        x.does("most(0)", "applicable(0, 0)", "explain(1)", "covered(0)");
        x.is("count(0, 3)", 0);
        x.is("count(0, 4)", 1);
    }

    private static void callsWithin() {
        Run x = due.term("looks for its row: if it is REMEMBERED, that is a HIT");
        x.does("close()", "function(2)", "function(2)");
        x.tells(0, 0, 5);
        x.tells(1, 1, 5);
        x.lays(0, 7, 1, false, "-1", "-1");
        x.lays(1, 0, 0, false, "-1", "-1");
        x.is("call(0)", 0);
        x.all(1, "count(0, 4)", "count(1, 4)");
        x.all(0, "count(0, 3)", "count(1, 3)");
        x.is("call(1)", 0);
        x.is("count(1, 3)", 0);
        x.is("count(1, 4)", 2);
        x.is("call(0)", 0);
        x.all(1, "count(0, 3)", "count(1, 3)");
        x.is("count(0, 4)", 1);
    }

    /** Twelve classes and as many rows more as wanted: sample s stands for row s. */
    private static void manyRows(Run x, int rows) {
        x.does("close()", "function(1)");
        x.lays(0, 0, 0, false, "-1 0 MAX");
        for (int s = 0; s < rows; s++) {
            x.is("sample(" + s % 12 + ", " + (s < 12 ? 1 : -1) + ")", s);
        }
    }

    private static void lookAgain(Run x, int s, int hits, int remembered) {
        x.does("arg(0, " + s + ")", "call(0)");
        x.is("count(0, 3)", hits);
        x.is("count(0, 4)", remembered);
    }

    private static void sixteenRows() {
        Run x = due.term("else it is REMEMBERED now, and if 16 were, the one goes that was looked for the longest time ago.");
        manyRows(x, 18);
        for (int s = 0; s < 16; s++) {
            lookAgain(x, s, 0, s + 1);
        }
        // With 16 none has gone.
        Run all = x.again();
        for (int s = 0; s < 16; s++) {
            lookAgain(all, s, s + 1, 16);
        }
        // The 17th takes the place of the first alone.
        lookAgain(x, 16, 0, 16);
        Run first = x.again();
        lookAgain(first, 0, 0, 16);
        for (int s = 2; s < 17; s++) {
            lookAgain(first, s, s - 1, 16);
        }
        lookAgain(x, 1, 1, 16);
        lookAgain(x, 17, 1, 16);
        lookAgain(x, 2, 1, 16);
    }

    private static void longestAgo() {
        Run x = due.term("the one goes that was looked for the longest time ago.");
        manyRows(x, 24);
        for (int s = 0; s < 24; s++) {
            lookAgain(x, s, 0, Math.min(s + 1, 16));
        }
        for (int s = 8; s < 24; s++) {
            lookAgain(x, s, s - 7, 16);
        }
        for (int s = 0; s < 8; s++) {
            lookAgain(x, s, 16, 16);
        }
        for (int s = 0; s < 8; s++) {
            lookAgain(x, s + 16, s + 17, 16);
        }
        for (int s = 0; s < 8; s++) {
            lookAgain(x, s, s + 25, 16);
        }
    }

    private static void hitsMakeYoung() {
        Run x = due.term("the one goes that was looked for the longest time ago.");
        manyRows(x, 20);
        for (int s = 0; s < 16; s++) {
            lookAgain(x, s, 0, s + 1);
        }
        lookAgain(x, 0, 1, 16);
        lookAgain(x, 2, 2, 16);
        lookAgain(x, 16, 2, 16);
        lookAgain(x, 17, 2, 16);
        // 1 and 3 went, 0 and 2 had been looked for again.
        lookAgain(x, 0, 3, 16);
        lookAgain(x, 2, 4, 16);
        lookAgain(x, 4, 5, 16);
        lookAgain(x, 1, 5, 16);
        lookAgain(x, 3, 5, 16);

        Run last = due.term("the one goes that was looked for the longest time ago.");
        manyRows(last, 18);
        for (int s = 0; s < 16; s++) {
            lookAgain(last, s, 0, s + 1);
        }
        for (int s = 0; s < 15; s++) {
            lookAgain(last, s, s + 1, 16);
        }
        lookAgain(last, 16, 15, 16);
        lookAgain(last, 0, 16, 16);
        lookAgain(last, 15, 16, 16);
    }

    private static void laidOrLifted() {
        Run x = due.term("When a HANDLER of the FUNCTION is LAID or LIFTED, nothing is REMEMBERED for it any more (its HITS stay).");
        x.does("close()", "function(1)", "function(1)");
        x.tells(0, 0, 5);
        x.makes(0, 0, 0, false, "7");
        x.makes(0, 0, 0, true, "7");
        x.makes(1, 0, 0, false, "7");
        x.does("call(0)", "call(0)", "call(1)", "call(1)");
        x.is("count(0, 4)", 1);
        String[] changes = {"lay(0)", "lay(1)", "lift(0)", "lift(1)"};
        int hits = 1;
        for (String change : changes) {
            x.is(change, 1);
            x.is("count(0, 4)", 0);
            x.is("count(0, 3)", hits);
            x.is("count(1, 4)", 1);
            x.is("count(1, 3)", 1);
            x.does("call(0)");
            x.is("count(0, 3)", hits);
            x.is("count(0, 4)", 1);
            x.does("call(0)");
            hits++;
            x.is("count(0, 3)", hits);
        }
        // What is refused, or is neither of the two, leaves it.
        x.refused("lay(0)", CallBoard.STATE);
        x.refused("lift(0)", CallBoard.STATE);
        x.does("freeze(0, true)", "freeze(0, false)");
        x.makes(0, 0, 0, false, "8 1 2");
        x.does("call(0)");
        x.is("count(0, 3)", hits + 1);
        x.is("count(0, 4)", 1);
    }

    // ---- promise 31

    private static void countOfFunction() {
        Run x = due.promise(31, "what = 0 its PLACES, 1 LAID HANDLERS, 2 1 if it is FROZEN, 3 HITS, 4 how many rows are REMEMBERED.");
        x.does("close()", "function(2)", "function(1)");
        int[] first = {2, 0, 0, 0, 0};
        int[] second = {1, 0, 0, 0, 0};
        for (int what = 0; what < 5; what++) {
            x.is("count(0, " + what + ")", first[what]);
            x.is("count(1, " + what + ")", second[what]);
        }
        for (int h = 0; h < 8; h++) {
            x.lays(1, 0, 0, h % 2 == 0, "" + h);
            x.is("count(1, 1)", h + 1);
        }
        x.does("freeze(1, true)");
        x.tells(0, 1, 0);
        x.does("call(1)", "call(1)", "call(1)");
        int[] later = {1, 8, 1, 2, 1};
        for (int what = 0; what < 5; what++) {
            x.is("count(0, " + what + ")", first[what]);
            x.is("count(1, " + what + ")", later[what]);
        }
        x.does("freeze(1, false)", "lift(0)");
        x.is("count(1, 1)", 7);
        x.is("count(1, 2)", 0);
    }

    private static void countOfAll() {
        Run x = due.promise(31, "Of all (f is -1): 0 FUNCTIONS, 1 HANDLERS, 2 1 if THE TABLE is CLOSED");
        x.all(0, "count(-1, 0)", "count(-1, 1)", "count(-1, 2)");
        x.does("close()");
        x.is("count(-1, 2)", 1);
        for (int f = 0; f < 4; f++) {
            x.does("function(1)");
            x.is("count(-1, 0)", f + 1);
        }
        x.is("function(1)", CallBoard.FULL);
        x.is("count(-1, 0)", 4);
        for (int h = 0; h < 40; h++) {
            x.does("handler(" + h % 4 + ", 0, 0, false)");
            x.is("count(-1, 1)", h + 1);
        }
        x.is("handler(0, 0, 0, false)", CallBoard.FULL);
        x.is("count(-1, 1)", 40);
        x.does("lay(0)", "lift(0)");
        x.is("count(-1, 1)", 40);
    }

    private static void countOfAllLatest() {
        Run x = due.promise(31, "3 all STEPS of the latest call()");
        x.is("count(-1, 3)", 0);
        x.does("parent(1, 0)", "close()", "function(1)", "function(2)");
        x.tells(0, 1, 0);
        x.is("call(0)", 1);
        x.is("count(-1, 3)", 0);
        x.lays(0, 2, 0, false, "1");
        x.lays(0, 0, 0, false, "0");
        x.lays(0, 0, 0, true, "0");
        x.is("call(0)", 0);
        x.is("count(-1, 3)", 3);
        x.refused("call(1)", CallBoard.STATE);
        x.refused("call(2)", CallBoard.NUMBER);
        x.is("count(-1, 3)", 3);
        x.does("lift(0)", "lift(1)", "lift(2)");
        x.is("count(-1, 3)", 3);
        x.is("call(0)", 1);
        x.is("count(-1, 3)", 0);
    }

    private static void countDeepest() {
        Run x = due.promise(31, "4 how many CALLS stood within one another in it at most (one that was DEEP isn't counted; 0 before any).");
        x.is("count(-1, 4)", 0);
        x.does("close()", "function(1)", "function(1)", "function(1)", "function(2)");
        x.is("count(-1, 4)", 0);
        x.is("call(0)", CallBoard.STATE);
        x.is("count(-1, 4)", 0);
        x.tells(0, 0, 0);
        x.is("call(0)", 1);
        x.is("count(-1, 4)", 1);
        x.lays(0, 6, 1, false, "-1");
        x.lays(1, 6, 2, false, "-1");
        x.is("call(0)", 1);
        x.is("count(-1, 4)", 3);
        int around = x.lays(2, 0, 1, true, "-1");
        x.is("call(0)", 5);
        x.is("count(-1, 4)", 3);
        x.refused("call(3)", CallBoard.STATE);
        x.refused("call(4)", CallBoard.NUMBER);
        x.is("count(-1, 4)", 3);
        x.is("call(1)", 5);
        x.is("count(-1, 4)", 2);
        x.does("lift(" + around + ")");
        x.lays(2, 6, 3, false, "-1");
        x.is("call(0)", 3);
        x.is("count(-1, 4)", 3);
        x.lays(2, 6, 0, false, "0");
        x.is("call(0)", 4);
        x.is("count(-1, 4)", 12);
    }

    private static void countNumber() {
        Run x = due.promise(31, "NUMBER: there is none such, another what.");
        x.is("count(0, 0)", CallBoard.NUMBER);
        x.is("count(-2, 0)", CallBoard.NUMBER);
        x.does("close()", "function(1)", "function(2)");
        x.is("count(1, 0)", 2);
        x.is("count(1, 4)", 0);
        for (String f : new String[] {"-2", "2", "3", "4", "MIN", "MAX"}) {
            x.is("count(" + f + ", 0)", CallBoard.NUMBER);
            x.is("count(" + f + ", 4)", CallBoard.NUMBER);
        }
        for (String what : new String[] {"-1", "5", "6", "MIN", "MAX"}) {
            x.is("count(-1, " + what + ")", CallBoard.NUMBER);
            x.is("count(0, " + what + ")", CallBoard.NUMBER);
            x.is("count(1, " + what + ")", CallBoard.NUMBER);
        }
        x.does("function(1)", "function(2)");
        x.is("count(3, 0)", 2);
        x.is("count(4, 0)", CallBoard.NUMBER);
    }
}

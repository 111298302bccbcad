/** The edges of promises 32 to 34 and of part 5 of the terms: a method for each sentence. */
public final class ProofEdgeTest {
    private static final Due due = new Due();
    private static final int MIN = Due.MIN;
    private static final int MAX = Due.MAX;

    public static void main(String[] args) {
        holeOfNone();
        holeAtEnds();
        holeOfOneWeight();
        holeOfNoneChosen();
        holeOnlyOfPlain();
        holeOnlyOfPlainAtTwoPlaces();
        holeClasses();
        tupleOrder();
        tupleOrderOfWeights();
        coveredAnswers();
        coveredNumber();
        coveredWithoutClasses();
        holeNoPlace();
        holeState();
        doubtOfTwo();
        doubtAtEnds();
        doubtNeither();
        doubtThanBoth();
        doubtOnlyOfPlain();
        doubtOnlyOfPlainAtTwoPlaces();
        doubtPairsInOrder();
        doubtManyPairs();
        doubtFirstTuple();
        doubtNoPlace();
        doubtState();
        doubtWithoutClasses();
        doubtOfMostPieces();
        functionsInTurn();
        due.end();
    }

    private static void hole(Run x, int f, long... want) {
        x.is("covered(" + f + ")", 0);
        for (int what = 0; what < 4; what++) {
            x.is("hole(" + f + ", " + what + ")", want[what]);
        }
    }

    private static void noHole(Run x, int f) {
        x.is("covered(" + f + ")", 1);
        for (int what = 0; what < 4; what++) {
            x.is("hole(" + f + ", " + what + ")", Due.NO_PROOF);
        }
    }

    private static void doubt(Run x, int k, long... want) {
        for (int what = 0; what < 6; what++) {
            x.is("doubt(0, " + k + ", " + what + ")", want[what]);
        }
    }

    private static void noDoubt(Run x, int k) {
        for (int what = 0; what < 6; what++) {
            x.is("doubt(0, " + k + ", " + what + ")", Due.NO_PROOF);
        }
    }

    /** Class 0 alone isn't abstract, so that weights are all that matters. */
    private static Run oneClass(Run x, int places) {
        for (int c = 1; c < 12; c++) {
            x.does("flag(" + c + ")");
        }
        x.does("close()", "function(" + places + ")");
        return x;
    }

    // ---- HOLES

    private static void holeOfNone() {
        Run x = due.term("none is CHOSEN (or there are none).");
        x.does("close()", "function(1)", "function(2)");
        hole(x, 0, 0, 0, MIN, 0);
        hole(x, 1, 0, 0, MIN, MIN);
        x.lays(0, 0, 0, false, "-1");
        noHole(x, 0);
        x.lays(1, 0, 0, false, "-1", "-1");
        noHole(x, 1);
    }

    private static void holeAtEnds() {
        String words = "A HOLE is a TUPLE for which, of the LAID HANDLERS that aren't AROUND and TAKE it, none is CHOSEN";
        Run upTo = oneClass(due.term(words), 1);
        upTo.lays(0, 0, 0, false, "0 MIN 2147483646");
        hole(upTo, 0, 0, 0, MAX, 0);
        upTo.lays(0, 0, 0, false, "0 MAX MAX");
        noHole(upTo, 0);
        Run from = oneClass(due.term(words), 1);
        from.lays(0, 0, 0, false, "0 -2147483647 MAX");
        hole(from, 0, 0, 0, MIN, 0);
        from.lays(0, 0, 0, false, "0 MIN MIN");
        noHole(from, 0);
        Run least = oneClass(due.term(words), 1);
        least.lays(0, 0, 0, false, "0 MIN MIN");
        hole(least, 0, 0, 0, MIN + 1, 0);
        Run second = oneClass(due.term(words), 2);
        second.lays(0, 0, 0, false, "-1", "-1 MIN 2147483646");
        hole(second, 0, 0, 0, MIN, MAX);
        second.lays(0, 0, 0, false, "-1 MIN 2147483646", "-1 MAX MAX");
        hole(second, 0, 0, 0, MAX, MAX);
        second.lays(0, 0, 0, false, "-1 MAX MAX", "-1 MAX MAX");
        noHole(second, 0);
    }

    private static void holeOfOneWeight() {
        Run x = oneClass(due.promise(33, "Of the first HOLE of a FUNCTION"), 1);
        x.lays(0, 0, 0, false, "-1 MIN -1");
        hole(x, 0, 0, 0, 0, 0);
        x.lays(0, 0, 0, false, "-1 1 MAX");
        hole(x, 0, 0, 0, 0, 0);
        x.lays(0, 0, 0, false, "0 0 0");
        noHole(x, 0);
        x.does("lift(0)");
        hole(x, 0, 0, 0, MIN, 0);
    }

    private static void holeOfNoneChosen() {
        Run x = oneClass(due.term("none is CHOSEN (or there are none)."), 1);
        x.lays(0, 0, 0, false, "-1 MIN 5");
        x.lays(0, 0, 0, false, "-1 5 MAX");
        hole(x, 0, 0, 0, 5, 0);
        x.lays(0, 0, 0, false, "-1 5 5");
        noHole(x, 0);
        x.does("lift(2)");
        x.lays(0, 0, 0, false, "-1 4 5");
        hole(x, 0, 0, 0, 5, 0);
        x.lays(0, 0, 0, false, "0 5 5");
        noHole(x, 0);
        Run ends = oneClass(due.term("none is CHOSEN (or there are none)."), 1);
        ends.lays(0, 0, 0, false, "-1");
        ends.lays(0, 0, 0, false, "-1 MIN -5");
        ends.lays(0, 0, 0, false, "-1 -5 2147483646");
        hole(ends, 0, 0, 0, -5, 0);
        ends.does("lift(1)");
        noHole(ends, 0);
        ends.lays(0, 0, 0, false, "-1 2147483646 MAX");
        hole(ends, 0, 0, 0, MAX - 1, 0);
    }

    private static void holeOnlyOfPlain() {
        Run x = oneClass(due.term("of the LAID HANDLERS that aren't AROUND and TAKE it"), 1);
        x.does("function(1)");
        x.lays(0, 0, 0, true, "-1");
        x.makes(0, 0, 0, false, "-1");
        x.lays(0, 0, 0, false, "0");
        x.does("lift(2)");
        x.lays(1, 0, 0, false, "-1");
        hole(x, 0, 0, 0, MIN, 0);
        noHole(x, 1);
        x.does("lay(1)");
        noHole(x, 0);
        // Handlers around neither make a doubt nor cut the weights.
        x.lays(0, 0, 0, true, "-1 5 9");
        x.lays(0, 0, 0, true, "-1 7 12");
        noHole(x, 0);
        x.does("lift(1)");
        x.lays(0, 0, 0, false, "-1 MIN 10");
        hole(x, 0, 0, 0, 11, 0);
    }

    private static void holeOnlyOfPlainAtTwoPlaces() {
        Run x = oneClass(due.term("of the LAID HANDLERS that aren't AROUND and TAKE it"), 2);
        x.lays(0, 0, 0, true, "-1", "-1");
        hole(x, 0, 0, 0, MIN, MIN);
        x.lays(0, 0, 0, false, "-1", "-1");
        noHole(x, 0);
        x.lays(0, 0, 0, true, "-1 0 6", "-1");
        x.lays(0, 0, 0, true, "-1", "-1 5 9");
        noHole(x, 0);
        x.lays(0, 0, 0, false, "-1 0 6", "-1");
        x.lays(0, 0, 0, false, "-1", "-1 5 9");
        hole(x, 0, 0, 0, 0, 5);
        // One around that is more specific than both isn't chosen.
        x.lays(0, 0, 0, true, "-1 0 6", "-1 5 9");
        hole(x, 0, 0, 0, 0, 5);
        x.lays(0, 0, 0, false, "-1 0 6", "-1 5 9");
        noHole(x, 0);
    }

    private static void holeClasses() {
        Run x = due.term("A TUPLE of a FUNCTION has for each PLACE a CLASS that isn't ABSTRACT and a WEIGHT");
        x.does("parent(1, 0)", "parent(3, 2)", "has(3, 12)", "flag(0)", "flag(2)", "flag(4)", "flag(11)", "close()", "function(1)");
        hole(x, 0, 1, 0, MIN, 0);
        x.lays(0, 0, 0, false, "0");
        hole(x, 0, 3, 0, MIN, 0);
        x.lays(0, 0, 0, false, "12");
        hole(x, 0, 5, 0, MIN, 0);
        for (int c = 5; c < 10; c++) {
            x.lays(0, 0, 0, false, "" + c);
        }
        // Class 10 is the last one that isn't abstract.
        hole(x, 0, 10, 0, MIN, 0);
        x.lays(0, 0, 0, false, "10");
        noHole(x, 0);
    }

    private static void tupleOrder() {
        String words = "TUPLES are in order by the CLASS at PLACE 0, then the WEIGHT there, then the CLASS at PLACE 1, then the WEIGHT there.";
        Run x = due.term(words);
        for (int c = 2; c < 12; c++) {
            x.does("flag(" + c + ")");
        }
        x.does("close()", "function(2)");
        // Holes at class 0 with a great weight, and at class 1 with the least: the class is first.
        x.lays(0, 0, 0, false, "0 MIN 2147483646", "-1");
        hole(x, 0, 0, 0, MAX, MIN);
        // A hole with a lesser weight at place 0 and a greater class at place 1 comes ahead.
        x.does("lift(0)");
        x.lays(0, 0, 0, false, "0 MIN 6", "0");
        x.lays(0, 0, 0, false, "0 MIN 4", "1");
        hole(x, 0, 0, 1, 5, MIN);
        // The class at place 1 comes ahead of the weight there.
        x.lays(0, 0, 0, false, "0 5 5", "1 10 MAX");
        hole(x, 0, 0, 1, 5, MIN);
        x.does("lift(1)");
        x.lays(0, 0, 0, false, "0 MIN 4", "0");
        x.lays(0, 0, 0, false, "0 5 5", "0 MIN 99");
        hole(x, 0, 0, 0, 5, 100);
    }

    private static void tupleOrderOfWeights() {
        Run x = oneClass(due.term("then the WEIGHT there."), 2);
        x.lays(0, 0, 0, false, "-1 MIN -1", "-1");
        x.lays(0, 0, 0, false, "-1 1 MAX", "-1 MIN -9");
        hole(x, 0, 0, 0, 0, MIN);
        x.lays(0, 0, 0, false, "-1 0 0", "-1 MIN 3");
        hole(x, 0, 0, 0, 0, 4);
        x.lays(0, 0, 0, false, "-1 0 0", "-1 4 MAX");
        hole(x, 0, 0, 0, 1, -8);
        x.lays(0, 0, 0, false, "-1 1 MAX", "-1 -8 MAX");
        noHole(x, 0);
        // Greater weights are no lesser for being below zero.
        x.does("lift(0)");
        x.lays(0, 0, 0, false, "-1 MIN -2", "-1");
        hole(x, 0, 0, 0, -1, MIN);
    }

    // ---- promises 32 and 33

    private static void coveredAnswers() {
        Run x = oneClass(due.promise(32, "Whether a FUNCTION has no HOLE: 1, 0."), 1);
        x.is("covered(0)", 0);
        x.lays(0, 3, 0, false, "-1");
        x.is("covered(0)", 1);
        x.does("freeze(0, true)");
        x.is("covered(0)", 1);
        x.does("freeze(0, false)", "lift(0)");
        x.is("covered(0)", 0);
    }

    private static void coveredNumber() {
        Run x = due.promise(32, "NUMBER: there is none such.");
        x.all(CallBoard.NUMBER, "covered(0)", "covered(-1)");
        x.does("close()", "function(1)", "function(2)");
        x.all(0, "covered(0)", "covered(1)");
        for (String f : new String[] {"-1", "2", "3", "4", "MIN", "MAX"}) {
            x.refused("covered(" + f + ")", CallBoard.NUMBER);
        }
        x.does("function(1)", "function(2)");
        x.is("covered(3)", 0);
        x.is("covered(4)", CallBoard.NUMBER);
    }

    private static void coveredWithoutClasses() {
        Run x = due.promise(32, "(A FUNCTION without a CLASS that isn't ABSTRACT has none.)");
        for (int c = 0; c < 12; c++) {
            x.does("flag(" + c + ")");
        }
        x.does("close()", "function(1)", "function(2)");
        noHole(x, 0);
        noHole(x, 1);
        x.lays(0, 0, 0, false, "0 5 9");
        x.lays(1, 0, 0, false, "-1", "12 5 9");
        noHole(x, 0);
        noHole(x, 1);
        Run last = due.promise(32, "(A FUNCTION without a CLASS that isn't ABSTRACT has none.)");
        for (int c = 0; c < 11; c++) {
            last.does("flag(" + c + ")");
        }
        last.does("close()", "function(1)", "function(2)");
        hole(last, 0, 11, 0, MIN, 0);
        hole(last, 1, 11, 11, MIN, MIN);
    }

    private static void holeNoPlace() {
        Run x = due.promise(33, "what = 0, 1 the CLASSES at PLACES 0 and 1, 2, 3 the WEIGHTS; 0 where it has no such PLACE.");
        x.does("close()", "function(1)", "function(2)");
        x.lays(0, 0, 0, false, "0");
        x.lays(0, 0, 0, false, "1 MIN 6");
        hole(x, 0, 1, 0, 7, 0);
        x.lays(1, 0, 0, false, "0", "-1");
        x.lays(1, 0, 0, false, "-1 MIN 6", "-1");
        x.lays(1, 0, 0, false, "1 7 7", "0");
        x.lays(1, 0, 0, false, "1 7 7", "1 MIN -4");
        x.lays(1, 0, 0, false, "0 MIN 6", "-1");
        hole(x, 1, 1, 1, 7, -3);
    }

    private static void holeState() {
        Run x = due.promise(33, "STATE is answered as 2^40 here: it has no HOLE, or there is no such FUNCTION, or another what.");
        x.is("hole(0, 0)", 1L << 40);
        x.does("close()", "function(1)", "function(2)");
        x.is("hole(0, 0)", 0);
        x.is("hole(1, 3)", MIN);
        for (String f : new String[] {"-1", "2", "3", "4", "MIN", "MAX"}) {
            x.refused("hole(" + f + ", 0)", 1L << 40);
        }
        for (String what : new String[] {"-1", "4", "5", "MIN", "MAX"}) {
            x.refused("hole(0, " + what + ")", 1L << 40);
            x.refused("hole(1, " + what + ")", 1L << 40);
        }
        x.lays(0, 0, 0, false, "-1");
        noHole(x, 0);
        x.all(1L << 40, "hole(0, -1)", "hole(0, 4)");
    }

    // ---- DOUBTS and promise 34

    private static void doubtOfTwo() {
        Run x = oneClass(due.term("that aren't AROUND is a TUPLE that both TAKE"), 1);
        noDoubt(x, 0);
        x.lays(0, 0, 0, false, "-1 0 5");
        noDoubt(x, 0);
        x.lays(0, 0, 0, false, "-1 6 9");
        noDoubt(x, 0);
        x.lays(0, 0, 0, false, "-1 9 12");
        doubt(x, 0, 1, 2, 0, 0, 9, 0);
        noDoubt(x, 1);
        x.does("lift(1)");
        noDoubt(x, 0);
        // Classes that none can have are in no tuple.
        x.lays(0, 0, 0, false, "1");
        x.lays(0, 0, 0, false, "12");
        noDoubt(x, 0);
    }

    private static void doubtAtEnds() {
        Run x = oneClass(due.term("is a TUPLE that both TAKE"), 1);
        x.lays(0, 0, 0, false, "-1 MIN 2147483646");
        x.lays(0, 0, 0, false, "-1 MAX MAX");
        noDoubt(x, 0);
        x.lays(0, 0, 0, false, "-1 -2147483647 MAX");
        doubt(x, 0, 0, 2, 0, 0, MIN + 1, 0);
        noDoubt(x, 1);
        x.lays(0, 0, 0, false, "0 MIN 2147483645");
        doubt(x, 0, 0, 2, 0, 0, MAX - 1, 0);
        Run greatest = oneClass(due.term("is a TUPLE that both TAKE"), 2);
        greatest.lays(0, 0, 0, false, "-1", "-1 MAX MAX");
        greatest.lays(0, 0, 0, false, "-1 MAX MAX", "-1");
        doubt(greatest, 0, 0, 1, 0, 0, MAX, MAX);
        Run least = oneClass(due.term("is a TUPLE that both TAKE"), 2);
        least.lays(0, 0, 0, false, "-1", "-1 MIN MIN");
        least.lays(0, 0, 0, false, "-1 MIN MIN", "-1");
        doubt(least, 0, 0, 1, 0, 0, MIN, MIN);
    }

    private static void doubtNeither() {
        Run x = due.term("while neither of them is MORE SPECIFIC than the other one");
        x.does("parent(1, 0)", "has(1, 12)", "close()", "function(1)");
        x.lays(0, 0, 0, false, "-1");
        x.lays(0, 0, 0, false, "0");
        x.lays(0, 0, 0, false, "1");
        noDoubt(x, 0);
        x.does("lift(2)");
        x.lays(0, 0, 0, false, "12");
        doubt(x, 0, 1, 3, 1, 0, MIN, 0);
        noDoubt(x, 1);
        Run ranges = oneClass(due.term("while neither of them is MORE SPECIFIC than the other one"), 1);
        ranges.lays(0, 0, 0, false, "-1 5 9");
        ranges.lays(0, 0, 0, false, "-1 5 10");
        ranges.lays(0, 0, 0, false, "-1 4 10");
        noDoubt(ranges, 0);
        ranges.lays(0, 0, 0, false, "-1 4 9");
        noDoubt(ranges, 0);
        ranges.does("lift(0)");
        doubt(ranges, 0, 1, 3, 0, 0, 5, 0);
        noDoubt(ranges, 1);
    }

    private static void doubtThanBoth() {
        Run x = due.term("and no LAID one (not AROUND) that TAKES it is MORE SPECIFIC than both.");
        x.does("parent(1, 0)", "parent(2, 1)", "has(1, 12)", "close()", "function(1)");
        x.lays(0, 0, 0, false, "0");
        x.lays(0, 0, 0, false, "12");
        doubt(x, 0, 0, 1, 1, 0, MIN, 0);
        // More specific than one of them alone, whichever that is.
        Run lesser = x.again();
        lesser.lays(0, 0, 0, false, "0 MIN 9");
        doubt(lesser, 0, 0, 1, 1, 0, MIN, 0);
        x.lays(0, 0, 0, false, "12 MIN 9");
        doubt(x, 0, 0, 1, 1, 0, MIN, 0);
        x.does("lift(2)");
        // More specific than both, but taking a part.
        x.lays(0, 0, 0, false, "1 MIN 9");
        doubt(x, 0, 0, 1, 1, 0, 10, 0);
        x.lays(0, 0, 0, false, "1 11 MAX");
        doubt(x, 0, 0, 1, 1, 0, 10, 0);
        x.lays(0, 0, 0, false, "2");
        doubt(x, 0, 0, 1, 1, 0, 10, 0);
        x.lays(0, 0, 0, false, "1 10 10");
        noDoubt(x, 0);
        x.does("lift(3)");
        doubt(x, 0, 0, 1, 1, 0, MIN, 0);
        x.does("lift(6)");
        x.makes(0, 0, 0, false, "1");
        x.lays(0, 0, 0, true, "1");
        doubt(x, 0, 0, 1, 1, 0, MIN, 0);
        x.does("lay(7)");
        noDoubt(x, 0);
    }

    private static void doubtOnlyOfPlain() {
        Run x = oneClass(due.term("A DOUBT of two LAID HANDLERS g and h (g the lesser number) that aren't AROUND"), 1);
        x.does("function(1)");
        x.lays(0, 0, 0, true, "-1 0 5");
        x.lays(0, 0, 0, true, "-1 5 9");
        x.lays(0, 0, 0, false, "-1 0 6");
        x.makes(0, 0, 0, false, "-1 6 9");
        x.lays(0, 0, 0, false, "-1 5 8");
        x.does("lift(4)");
        x.lays(1, 0, 0, false, "-1 3 7");
        noDoubt(x, 0);
        x.does("lay(3)");
        doubt(x, 0, 2, 3, 0, 0, 6, 0);
        noDoubt(x, 1);
    }

    private static void doubtOnlyOfPlainAtTwoPlaces() {
        Run x = oneClass(due.term("A DOUBT of two LAID HANDLERS g and h (g the lesser number) that aren't AROUND"), 2);
        x.lays(0, 0, 0, true, "-1 0 6", "-1");
        x.lays(0, 0, 0, true, "-1", "-1 5 9");
        x.lays(0, 0, 0, false, "-1 2 8", "-1");
        noDoubt(x, 0);
        x.lays(0, 0, 0, false, "-1", "-1 7 12");
        doubt(x, 0, 2, 3, 0, 0, 2, 7);
        noDoubt(x, 1);
        x.lays(0, 0, 0, true, "-1 2 8", "-1 7 12");
        doubt(x, 0, 2, 3, 0, 0, 2, 7);
        x.lays(0, 0, 0, false, "-1 2 8", "-1 7 12");
        noDoubt(x, 0);
    }

    private static void doubtPairsInOrder() {
        Run x = oneClass(due.promise(34, "Of the k-th pair (from 0 on, by g, then by h) of LAID HANDLERS of a FUNCTION that have a DOUBT"), 1);
        x.makes(0, 0, 0, false, "-1 10 20");
        x.makes(0, 0, 0, false, "-1 0 4");
        x.makes(0, 0, 0, false, "-1 4 12");
        x.makes(0, 0, 0, false, "-1 20 30");
        x.does("lay(3)", "lay(2)", "lay(1)", "lay(0)");
        // The first pair by numbers has a later tuple than others.
        doubt(x, 0, 0, 2, 0, 0, 10, 0);
        doubt(x, 1, 0, 3, 0, 0, 20, 0);
        doubt(x, 2, 1, 2, 0, 0, 4, 0);
        noDoubt(x, 3);
        x.does("lift(2)");
        doubt(x, 0, 0, 3, 0, 0, 20, 0);
        noDoubt(x, 1);
    }

    private static void doubtManyPairs() {
        Run x = oneClass(due.promise(34, "Of the k-th pair (from 0 on, by g, then by h)"), 1);
        for (int h = 0; h < 8; h++) {
            x.lays(0, 0, 0, false, "-1 " + h + " " + (10 + h));
        }
        int k = 0;
        for (int g = 0; g < 8; g++) {
            for (int h = g + 1; h < 8; h++) {
                x.is("doubt(0, " + k + ", 0)", g);
                x.is("doubt(0, " + k + ", 1)", h);
                x.is("doubt(0, " + k + ", 4)", h);
                k++;
            }
        }
        noDoubt(x, 28);
    }

    private static void doubtFirstTuple() {
        Run x = due.promise(34, "2, 3 the CLASSES at PLACES 0 and 1 of the first one, 4, 5 the WEIGHTS");
        for (int c = 3; c < 12; c++) {
            x.does("flag(" + c + ")");
        }
        x.does("has(1, 12)", "has(2, 12)", "close()", "function(2)");
        x.lays(0, 0, 0, false, "12 -7 9", "-1");
        x.lays(0, 0, 0, false, "-1", "2 3 MAX");
        doubt(x, 0, 0, 1, 1, 2, -7, 3);
        x.lays(0, 0, 0, false, "1", "2 3 7");
        doubt(x, 0, 0, 1, 1, 2, -7, 8);
        x.lays(0, 0, 0, false, "1 MIN -5", "2 3 MAX");
        doubt(x, 0, 0, 1, 1, 2, -4, 8);
        x.lays(0, 0, 0, false, "1", "2 7 MAX");
        doubt(x, 0, 0, 1, 2, 2, -7, 3);
    }

    private static void doubtNoPlace() {
        Run x = due.promise(34, "(0 where it has no such PLACE)");
        x.does("has(5, 12)", "has(5, 13)", "close()", "function(1)");
        x.lays(0, 0, 0, false, "12 3 MAX");
        x.lays(0, 0, 0, false, "13");
        doubt(x, 0, 0, 1, 5, 0, 3, 0);
    }

    private static void doubtState() {
        Run x = due.promise(34, "STATE is answered as 2^40 here: there is none such, or another what.");
        x.is("doubt(0, 0, 0)", 1L << 40);
        oneClass(x, 1);
        noDoubt(x, 0);
        x.lays(0, 0, 0, false, "-1 0 5");
        x.lays(0, 0, 0, false, "-1 5 9");
        doubt(x, 0, 0, 1, 0, 0, 5, 0);
        for (String f : new String[] {"-1", "1", "3", "4", "MIN", "MAX"}) {
            x.refused("doubt(" + f + ", 0, 0)", 1L << 40);
        }
        for (String k : new String[] {"-1", "1", "2", "28", "MIN", "MAX"}) {
            x.refused("doubt(0, " + k + ", 0)", 1L << 40);
            x.refused("doubt(0, " + k + ", 5)", 1L << 40);
        }
        for (String what : new String[] {"-1", "6", "7", "MIN", "MAX"}) {
            x.refused("doubt(0, 0, " + what + ")", 1L << 40);
        }
    }

    private static void doubtWithoutClasses() {
        Run x = due.term("A TUPLE of a FUNCTION has for each PLACE a CLASS that isn't ABSTRACT");
        for (int c = 0; c < 12; c++) {
            x.does("flag(" + c + ")");
        }
        x.does("close()", "function(2)");
        x.lays(0, 0, 0, false, "-1 0 5", "-1");
        x.lays(0, 0, 0, false, "-1 5 9", "-1");
        noDoubt(x, 0);
    }

    /** Eight ranges without an end in common make the most pieces: the last one's end is the seventeenth. */
    private static void doubtOfMostPieces() {
        for (int place = 0; place < 2; place++) {
            Run x = oneClass(due.term("is a TUPLE that both TAKE"), 2);
            String[] ranges = {"-1 -900 -890", "-1 -800 -790", "-1 -700 -690", "-1 -600 -590", "-1 -500 -490",
                "-1 1000 2000", "-1 1500 3000", "0 1400 1700"};
            for (String range : ranges) {
                x.lays(0, 0, 0, false, place == 0 ? range : "-1", place == 0 ? "-1" : range);
            }
            doubt(x, 0, 5, 6, 0, 0, place == 0 ? 1701 : MIN, place == 0 ? MIN : 1701);
            noDoubt(x, 1);
        }
    }

    private static void layAt(Run x, int f, int place, String... ranges) {
        for (String range : ranges) {
            x.lays(f, 0, 0, false, place == 0 ? range : "-1", place == 0 ? "-1" : range);
        }
    }

    /** What was proved of a function with more pieces and more doubts isn't said of the next one. */
    private static void functionsInTurn() {
        for (int place = 0; place < 2; place++) {
            Run x = oneClass(due.term("that aren't AROUND is a TUPLE that both TAKE"), 2);
            x.does("function(2)", "function(2)");
            layAt(x, 0, place, "-1 0 5", "-1 6 9");
            layAt(x, 1, place, "-1 0 20", "-1 10 30", "-1 5 6");
            layAt(x, 2, place, "-1 100 101", "-1 110 111", "-1 120 121", "-1 130 131", "-1 140 141", "-1 150 151",
                "-1 160 161", "-1 170 171");
            for (int times = 0; times < 3; times++) {
                x.is("doubt(2, 0, 0)", Due.NO_PROOF);
                x.is("doubt(1, 0, 1)", 3);
                x.is("doubt(1, 0, " + (4 + place) + ")", 10);
                noDoubt(x, 0);
            }
            x.does("lift(0)");
            x.makes(0, 0, 0, false, place == 0 ? "-1 MIN 5" : "-1", place == 0 ? "-1" : "-1 MIN 5");
            x.does("lay(13)", "covered(2)", "covered(1)");
            hole(x, 0, 0, 0, place == 0 ? 10 : MIN, place == 0 ? MIN : 10);
        }
    }
}

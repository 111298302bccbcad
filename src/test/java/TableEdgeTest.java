/** The edges of promises 1 to 7 and of part 1 of the terms: a method for each sentence. */
public final class TableEdgeTest {
    private static final Due due = new Due();
    private static final String[] NO_CLASSES = {"-1", "12", "15", "16", "32", "MIN", "MAX"};
    private static final String[] NO_PARENTS = {"-2", "12", "15", "16", "32", "MIN", "MAX"};
    private static final String[] NO_TRAITS = {"-1", "0", "11", "16", "44", "MIN", "MAX"};
    private static final String[] NO_CODES = {"-1", "16", "32", "MIN", "MAX"};

    public static void main(String[] args) {
        newTable();
        newBoardHasNothing();
        newCounters();
        noCallYet();
        boardsApart();
        refusedChangesNothingWhileOpen();
        parentIsAnother();
        parentNumber();
        parentParentNumber();
        parentWhenClosed();
        parentLoops();
        traitExtends();
        traitNumber();
        traitWhenClosed();
        hasTrait();
        hasNumber();
        hasWhenClosed();
        flagAbstract();
        flagNumber();
        flagWhenClosed();
        closeOnce();
        closedForGood();
        closeParentsRound();
        closeTraitsRound();
        closeNotRound();
        closeStateAheadOfLoop();
        belowOfNoCode();
        belowWhileOpen();
        belowItself();
        belowByParents();
        belowByTraits();
        belowByAll();
        codesApart();
        due.end();
    }

    // ---- promise 1

    private static void newTable() {
        Run x = due.promise(1, "An open TABLE without anything");
        x.is("count(-1, 2)", 0);
        x.is("below(0, 0)", false);
        x.is("close()", 1);
        for (int c = 0; c < 12; c++) {
            x.is("sample(" + c + ", 0)", c);
        }
        for (int a = 0; a < 16; a++) {
            for (int b = 0; b < 16; b++) {
                x.is("below(" + a + ", " + b + ")", a == b);
            }
        }
    }

    private static void newBoardHasNothing() {
        Run open = due.promise(1, "no SAMPLES, FUNCTIONS, HANDLERS");
        Run closed = open.again();
        closed.does("close()");
        for (Run x : new Run[] {open, closed}) {
            x.all(0, "samples()", "count(-1, 0)", "count(-1, 1)", "dominates(0, 0)");
            x.all(-1, "of(0, 0)", "of(0, 1)", "of(-1, 0)", "where()");
            x.all(-1, "order(0, 0)", "applicable(0, 0)", "most(0)", "order(-1, 0)", "most(-1)");
            x.all(CallBoard.NUMBER, "arg(0, 0)", "arg(1, 0)", "call(0)", "covered(0)", "count(0, 0)", "freeze(0, false)");
            x.all(CallBoard.NUMBER, "handler(0, 0, 0, false)", "place(0, 0, 0)", "test(0, 0, 0, 0)", "lay(0)");
            x.all(CallBoard.NUMBER, "lift(0)", "about(0, 0)", "explain(0)");
            x.all(Due.NO_PROOF, "hole(0, 0)", "doubt(0, 0, 0)");
        }
        closed.does("function(1)", "handler(0, 0, 0, false)", "lay(0)", "sample(0, 1)");
        closed.is("call(0)", CallBoard.STATE);
    }

    private static void newCounters() {
        Run x = due.promise(1, "COUNTERS are 0");
        for (int k = 0; k < 8; k++) {
            x.is("counter(" + k + ")", 0);
        }
    }

    private static void noCallYet() {
        Run x = due.promise(1, "no call yet");
        x.all(0, "value()", "failure()", "count(-1, 3)", "count(-1, 4)");
        x.all(-1, "step(0)", "step(1)", "step(999)");
        x.does("close()", "function(1)");
        x.is("call(0)", CallBoard.STATE);
        x.all(0, "value()", "failure()", "count(-1, 3)", "count(-1, 4)", "count(0, 3)", "count(0, 4)");
    }

    private static void boardsApart() {
        Run x = due.promise(1, "An open TABLE without anything");
        x.does("parent(1, 0)", "trait(12, 13)", "has(0, 12)", "flag(5)", "close()", "function(1)");
        x.lays(0, 4, 0, false, "-1");
        x.tells(0, 1, 7);
        x.is("call(0)", 0);
        Run other = due.promise(1, "no SAMPLES, FUNCTIONS, HANDLERS");
        other.all(0, "count(-1, 0)", "count(-1, 1)", "count(-1, 2)", "count(-1, 3)", "samples()", "counter(0)", "value()");
        other.all(1, "trait(12, 13)", "has(0, 12)", "flag(5)");
    }

    // ---- the rule on refusals

    /** All of the table is told first, so that each kind of refused call has something to spoil. */
    private static void refusedChangesNothingWhileOpen() {
        Run x = due.term("A call that is refused (answers below 0, where not told otherwise) changes nothing.");
        x.does("parent(1, 0)", "parent(2, 1)", "has(1, 12)", "trait(12, 13)", "flag(3)");
        x.refused("parent(1, 12)", CallBoard.NUMBER);
        x.refused("trait(12, 11)", CallBoard.NUMBER);
        x.refused("has(2, 16)", CallBoard.NUMBER);
        x.refused("flag(12)", CallBoard.NUMBER);
        x.refused("sample(0, 1)", CallBoard.STATE);
        x.refused("function(1)", CallBoard.STATE);
        x.refused("handler(0, 0, 0, false)", CallBoard.NUMBER);
        x.refused("arg(0, 0)", CallBoard.NUMBER);
        x.refused("call(0)", CallBoard.NUMBER);
        x.refused("explain(0)", CallBoard.NUMBER);
        x.refused("freeze(0, true)", CallBoard.NUMBER);
        x.does("parent(0, 2)");
        x.refused("close()", CallBoard.LOOP);
    }

    // ---- promise 2

    private static void parentIsAnother() {
        Run x = due.promise(2, "The PARENT of a CLASS is another one (-1: none): 1.");
        x.all(1, "parent(0, 11)", "parent(0, 10)", "parent(0, 10)", "parent(11, 0)", "parent(11, -1)", "parent(5, -1)");
        x.does("close()");
        x.is("below(0, 10)", true);
        x.is("below(0, 11)", false);
        x.is("below(11, 0)", false);
        x.is("below(5, 0)", false);
    }

    private static void parentNumber() {
        Run x = due.promise(2, "NUMBER: c isn't 0 .. 11");
        x.all(1, "parent(0, 5)", "parent(11, 5)");
        for (String c : NO_CLASSES) {
            x.refused("parent(" + c + ", 4)", CallBoard.NUMBER);
            x.refused("parent(" + c + ", -1)", CallBoard.NUMBER);
        }
        x.does("close()");
        x.is("below(0, 5)", true);
        x.is("below(11, 5)", true);
    }

    private static void parentParentNumber() {
        Run x = due.promise(2, "p not -1 .. 11");
        x.all(1, "parent(3, -1)", "parent(4, 0)", "parent(5, 11)");
        for (String p : NO_PARENTS) {
            x.refused("parent(4, " + p + ")", CallBoard.NUMBER);
        }
        x.does("close()");
        x.is("below(4, 0)", true);
        x.is("below(5, 11)", true);
    }

    private static void parentWhenClosed() {
        Run x = due.promise(2, "STATE: THE TABLE is CLOSED.");
        x.does("parent(1, 0)", "close()");
        x.refused("parent(1, 2)", CallBoard.STATE);
        x.refused("parent(1, 0)", CallBoard.STATE);
        x.refused("parent(1, -1)", CallBoard.STATE);
        x.refused("parent(0, 0)", CallBoard.STATE);
        x.refused("parent(11, 11)", CallBoard.STATE);
        x.all(CallBoard.NUMBER, "parent(-1, 0)", "parent(12, 0)", "parent(0, -2)", "parent(0, 12)");
    }

    private static void parentLoops() {
        Run x = due.promise(2, "(Loops are looked for by close().)");
        x.all(1, "parent(0, 0)", "parent(11, 11)", "parent(3, 4)", "parent(4, 3)");
        x.refused("close()", CallBoard.LOOP);
    }

    // ---- promise 3

    private static void traitExtends() {
        Run x = due.promise(3, "A TRAIT EXTENDS another one: 1; 0 if it did.");
        x.is("trait(12, 15)", 1);
        x.is("trait(12, 15)", 0);
        x.is("trait(12, 15)", 0);
        x.is("trait(12, 14)", 1);
        x.is("trait(14, 15)", 1);
        x.is("trait(12, 14)", 0);
        x.does("close()");
        x.is("below(12, 15)", true);
        x.is("below(15, 12)", false);
        Run round = due.promise(3, "A TRAIT EXTENDS another one: 1; 0 if it did.");
        round.is("trait(15, 12)", 1);
        round.is("trait(12, 15)", 1);
        round.is("trait(13, 13)", 1);
        round.is("trait(13, 13)", 0);
        round.is("close()", CallBoard.LOOP);
    }

    private static void traitNumber() {
        Run x = due.promise(3, "NUMBER: t or u isn't 12 .. 15");
        x.all(1, "trait(12, 13)", "trait(14, 15)");
        for (String t : NO_TRAITS) {
            x.refused("trait(" + t + ", 13)", CallBoard.NUMBER);
            x.refused("trait(12, " + t + ")", CallBoard.NUMBER);
            x.refused("trait(" + t + ", " + t + ")", CallBoard.NUMBER);
        }
    }

    private static void traitWhenClosed() {
        Run x = due.promise(3, "STATE: THE TABLE is CLOSED.");
        x.does("trait(12, 13)", "close()");
        x.refused("trait(12, 13)", CallBoard.STATE);
        x.refused("trait(13, 14)", CallBoard.STATE);
        x.refused("trait(15, 15)", CallBoard.STATE);
        x.all(CallBoard.NUMBER, "trait(11, 12)", "trait(16, 12)", "trait(12, 11)", "trait(12, 16)");
    }

    // ---- promise 4

    private static void hasTrait() {
        Run x = due.promise(4, "A CLASS has a TRAIT: 1; 0 if it had.");
        x.does("parent(1, 0)", "trait(12, 13)");
        x.is("has(0, 12)", 1);
        x.is("has(0, 12)", 0);
        // What it comes to by its parent or by another trait hasn't been told of it.
        x.is("has(1, 12)", 1);
        x.is("has(0, 13)", 1);
        x.is("has(1, 12)", 0);
        x.is("has(0, 12)", 0);
        x.is("has(2, 12)", 1);
    }

    private static void hasNumber() {
        Run x = due.promise(4, "NUMBER: c isn't 0 .. 11, t not 12 .. 15");
        x.all(1, "has(0, 12)", "has(0, 15)", "has(11, 12)", "has(11, 15)");
        for (String c : NO_CLASSES) {
            x.refused("has(" + c + ", 13)", CallBoard.NUMBER);
        }
        for (String t : NO_TRAITS) {
            x.refused("has(5, " + t + ")", CallBoard.NUMBER);
        }
    }

    private static void hasWhenClosed() {
        Run x = due.promise(4, "STATE: THE TABLE is CLOSED.");
        x.does("has(1, 12)", "close()");
        x.refused("has(1, 12)", CallBoard.STATE);
        x.refused("has(1, 13)", CallBoard.STATE);
        x.refused("has(0, 15)", CallBoard.STATE);
        x.all(CallBoard.NUMBER, "has(-1, 12)", "has(12, 12)", "has(0, 11)", "has(0, 16)");
    }

    // ---- promise 5

    private static void flagAbstract() {
        Run x = due.promise(5, "A CLASS is ABSTRACT: 1; 0 if it was.");
        x.does("parent(1, 0)");
        x.is("flag(0)", 1);
        x.is("flag(0)", 0);
        x.is("flag(11)", 1);
        x.is("flag(11)", 0);
        x.is("flag(0)", 0);
        x.does("close()");
        for (int c = 1; c < 11; c++) {
            x.is("sample(" + c + ", 0)", c - 1);
        }
        x.is("sample(0, 0)", CallBoard.ABSTRACT);
        x.is("sample(11, 0)", CallBoard.ABSTRACT);
    }

    private static void flagNumber() {
        Run x = due.promise(5, "NUMBER: c isn't 0 .. 11");
        x.all(1, "flag(0)", "flag(11)");
        for (String c : NO_CLASSES) {
            x.refused("flag(" + c + ")", CallBoard.NUMBER);
        }
    }

    private static void flagWhenClosed() {
        Run x = due.promise(5, "STATE: THE TABLE is CLOSED.");
        x.does("flag(3)", "close()");
        x.refused("flag(3)", CallBoard.STATE);
        x.refused("flag(0)", CallBoard.STATE);
        x.refused("flag(11)", CallBoard.STATE);
        x.all(CallBoard.NUMBER, "flag(-1)", "flag(12)");
    }

    // ---- promise 6

    private static void closeOnce() {
        Run x = due.promise(6, "THE TABLE is CLOSED: 1. STATE: it is");
        x.is("count(-1, 2)", 0);
        x.is("close()", 1);
        x.is("count(-1, 2)", 1);
        x.refused("close()", CallBoard.STATE);
        x.refused("close()", CallBoard.STATE);
        x.is("count(-1, 2)", 1);
    }

    private static void closedForGood() {
        Run x = due.term("THE TABLE is open at first, and CLOSED by close() for good.");
        x.all(CallBoard.STATE, "sample(0, 0)", "function(1)");
        x.all(1, "parent(1, 0)", "close()");
        x.does("function(1)", "sample(0, 5)");
        x.lays(0, 0, 0, false, "-1");
        x.does("arg(0, 0)", "call(0)", "lift(0)");
        x.all(CallBoard.STATE, "close()", "parent(1, 0)", "trait(12, 13)", "has(0, 12)", "flag(0)");
        x.is("count(-1, 2)", 1);
    }

    private static void loopOf(String... parents) {
        Run x = due.promise(6, "LOOP: by PARENTS, or by what TRAITS EXTEND, one comes from a CODE to itself in one step or more.");
        x.does(parents);
        x.refused("close()", CallBoard.LOOP);
        x.is("count(-1, 2)", 0);
        x.is("below(0, 0)", false);
        x.is("function(1)", CallBoard.STATE);
        x.is("sample(0, 0)", CallBoard.STATE);
        x.is("flag(6)", 1);
        x.refused("close()", CallBoard.LOOP);
    }

    private static void closeParentsRound() {
        loopOf("parent(0, 0)");
        loopOf("parent(11, 11)");
        loopOf("parent(10, 11)", "parent(11, 10)");
        loopOf("parent(0, 1)", "parent(1, 0)");
        loopOf("parent(7, 2)", "parent(2, 9)", "parent(9, 7)");
        // What leads into a loop isn't on it, and a way out by a trait doesn't end it.
        loopOf("parent(0, 1)", "parent(1, 2)", "parent(2, 1)", "has(2, 12)");
        Run x = due.promise(6, "LOOP: by PARENTS");
        for (int c = 0; c < 12; c++) {
            x.does("parent(" + c + ", " + (c + 11) % 12 + ")");
        }
        x.refused("close()", CallBoard.LOOP);
        x.does("parent(5, -1)");
        x.is("close()", 1);
        x.is("below(4, 5)", true);
        x.is("below(5, 4)", false);
    }

    private static void closeTraitsRound() {
        loopOf("trait(12, 12)");
        loopOf("trait(15, 15)");
        loopOf("trait(12, 13)", "trait(13, 12)");
        loopOf("trait(14, 15)", "trait(15, 14)");
        loopOf("trait(15, 13)", "trait(13, 14)", "trait(14, 15)");
        loopOf("trait(12, 14)", "trait(14, 13)", "trait(13, 15)", "trait(15, 12)");
        loopOf("has(0, 12)", "trait(12, 13)", "trait(13, 14)", "trait(14, 13)");
    }

    private static void closeNotRound() {
        Run x = due.promise(6, "one comes from a CODE to itself in one step or more.");
        for (int t = 12; t < 16; t++) {
            for (int u = t + 1; u < 16; u++) {
                x.does("trait(" + t + ", " + u + ")");
            }
            for (int c = 0; c < 12; c++) {
                x.does("has(" + c + ", " + t + ")");
            }
        }
        for (int c = 1; c < 12; c++) {
            x.does("parent(" + c + ", " + (c - 1) + ")");
        }
        x.is("close()", 1);
        x.is("below(11, 15)", true);
    }

    private static void closeStateAheadOfLoop() {
        Run x = due.term("Of several refusals that a call names the first one named is answered.");
        x.does("parent(1, 0)", "close()");
        x.is("parent(0, 1)", CallBoard.STATE);
        x.is("close()", CallBoard.STATE);
    }

    // ---- promise 7

    private static void belowOfNoCode() {
        Run x = due.promise(7, "(false if one is no CODE");
        x.does("close()");
        x.is("below(0, 0)", true);
        x.is("below(15, 15)", true);
        for (String code : NO_CODES) {
            x.is("below(" + code + ", 0)", false);
            x.is("below(0, " + code + ")", false);
            x.is("below(15, " + code + ")", false);
            x.is("below(" + code + ", " + code + ")", false);
        }
    }

    private static void belowWhileOpen() {
        Run x = due.promise(7, "or THE TABLE is open)");
        x.does("parent(1, 0)", "trait(12, 13)", "has(1, 12)");
        x.all(0, "below(0, 0)", "below(1, 0)", "below(12, 13)", "below(1, 13)", "below(15, 15)");
        x.does("parent(0, 1)");
        x.is("close()", CallBoard.LOOP);
        x.all(0, "below(0, 0)", "below(1, 0)", "below(12, 13)", "below(1, 13)");
        x.does("parent(0, -1)", "close()");
        x.all(1, "below(0, 0)", "below(1, 0)", "below(12, 13)", "below(1, 13)");
    }

    private static void belowItself() {
        Run x = due.term("A CODE x is BELOW a CODE y if it is y");
        x.does("close()");
        for (int code = 0; code < 16; code++) {
            x.is("below(" + code + ", " + code + ")", true);
        }
    }

    private static void belowByParents() {
        Run x = due.term("or its PARENT, one of its TRAITS, or a TRAIT that it EXTENDS is BELOW y.");
        // The longest chain goes against the numbers, so that no order of looking helps.
        for (int c = 0; c < 11; c++) {
            x.does("parent(" + c + ", " + (c + 1) + ")");
        }
        x.does("close()");
        for (int a = 0; a < 12; a++) {
            for (int b = 0; b < 12; b++) {
                x.is("below(" + a + ", " + b + ")", a <= b);
            }
        }
        Run y = due.term("A CLASS may have one PARENT, a CLASS");
        y.does("parent(4, 3)", "parent(4, 2)", "close()");
        y.is("below(4, 2)", true);
        y.is("below(4, 3)", false);
    }

    private static void belowByTraits() {
        Run x = due.term("and any TRAITS; a TRAIT may EXTEND any TRAITS.");
        x.does("has(0, 12)", "has(0, 13)", "has(0, 14)", "has(0, 15)");
        x.does("trait(15, 12)", "trait(15, 13)", "trait(15, 14)", "has(11, 15)", "close()");
        for (int t = 12; t < 16; t++) {
            x.is("below(0, " + t + ")", true);
            x.is("below(11, " + t + ")", true);
            x.is("below(15, " + t + ")", true);
            x.is("below(" + t + ", 0)", false);
            x.is("below(1, " + t + ")", false);
        }
        x.is("below(12, 15)", false);
        x.is("below(12, 13)", false);
    }

    private static void belowByAll() {
        Run x = due.term("or its PARENT, one of its TRAITS, or a TRAIT that it EXTENDS is BELOW y.");
        for (int c = 11; c > 0; c--) {
            x.does("parent(" + c + ", " + (c - 1) + ")");
        }
        x.does("has(0, 15)", "trait(15, 14)", "trait(14, 13)", "trait(13, 12)", "close()");
        for (int t = 12; t < 16; t++) {
            x.is("below(11, " + t + ")", true);
            x.is("below(0, " + t + ")", true);
            x.is("below(" + t + ", 11)", false);
        }
        x.is("below(12, 15)", false);
        x.is("below(0, 11)", false);
    }

    private static void codesApart() {
        Run x = due.term("0 .. 11 are CLASSES, 12 .. 15 TRAITS.");
        x.all(1, "parent(0, 11)", "has(11, 12)", "trait(12, 15)", "flag(11)");
        x.all(CallBoard.NUMBER, "parent(12, 0)", "parent(0, 12)", "has(12, 12)", "has(0, 11)", "trait(11, 12)", "flag(12)");
        x.does("close()");
        x.is("sample(11, 0)", CallBoard.ABSTRACT);
        x.is("sample(12, 0)", CallBoard.NUMBER);
    }
}

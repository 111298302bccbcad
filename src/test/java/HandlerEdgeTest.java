/** The edges of promises 11 to 20 and of part 2 of the terms: a method for each sentence. */
public final class HandlerEdgeTest {
    private static final Due due = new Due();
    private static final String[] NO_SUCH = {"-1", "2", "3", "4", "40", "41", "MIN", "MAX"};

    public static void main(String[] args) {
        functionNumbers();
        functionPlaces();
        functionWhileOpen();
        functionFull();
        handlerNumbers();
        handlerAtFirst();
        handlerFunction();
        handlerAction();
        handlerFull();
        placeIsAnother();
        placeNumber();
        placeState();
        testIsAnother();
        testNumber();
        testState();
        layNumber();
        layState();
        layLoop();
        layLoopOnlyOfLaid();
        layLoopAround();
        layFull();
        layRefusalsInOrder();
        liftNumber();
        liftState();
        freezeAnswers();
        freezeNumber();
        aboutAll();
        aboutNumber();
        due.end();
    }

    /** Two functions, of one and of two places, with a handler each. */
    private static void makeTwo(Run x) {
        x.does("close()", "function(1)", "function(2)", "handler(0, 0, 0, false)", "handler(1, 0, 0, false)");
    }

    // ---- promise 11

    private static void functionNumbers() {
        Run x = due.term("FUNCTIONS are numbered 0 .. 3, each has one or two PLACES (0, 1).");
        x.does("close()");
        for (int f = 0; f < 4; f++) {
            x.is("function(" + (f % 2 + 1) + ")", f);
        }
        for (int f = 0; f < 4; f++) {
            x.is("count(" + f + ", 0)", f % 2 + 1);
        }
        x.is("count(-1, 0)", 4);
        x.is("count(4, 0)", CallBoard.NUMBER);
    }

    private static void functionPlaces() {
        Run x = due.promise(11, "A FUNCTION comes: its number. NUMBER: places isn't 1, 2");
        x.does("close()");
        x.is("function(1)", 0);
        x.is("function(2)", 1);
        for (String places : new String[] {"0", "3", "-1", "-2", "4", "MIN", "MAX"}) {
            x.refused("function(" + places + ")", CallBoard.NUMBER);
        }
        x.is("function(2)", 2);
    }

    private static void functionWhileOpen() {
        Run x = due.promise(11, "STATE: THE TABLE is open");
        x.refused("function(1)", CallBoard.STATE);
        x.refused("function(2)", CallBoard.STATE);
        x.all(CallBoard.NUMBER, "function(0)", "function(3)");
        x.does("close()");
        x.is("function(1)", 0);
    }

    private static void functionFull() {
        Run x = due.promise(11, "FULL: there are 4.");
        x.does("close()", "function(1)", "function(1)", "function(1)");
        x.is("function(2)", 3);
        x.refused("function(1)", CallBoard.FULL);
        x.refused("function(2)", CallBoard.FULL);
        x.all(CallBoard.NUMBER, "function(0)", "function(3)");
        x.is("count(-1, 0)", 4);
    }

    // ---- promise 12

    private static void handlerNumbers() {
        Run x = due.term("HANDLERS are numbered from 0 on as they come (40 at most)");
        x.does("close()", "function(1)", "function(2)");
        for (int h = 0; h < 40; h++) {
            x.is("handler(" + h % 2 + ", " + h % 8 + ", " + h + ", false)", h);
        }
        x.is("handler(0, 0, 0, false)", CallBoard.FULL);
        for (int h = 0; h < 40; h++) {
            x.is("about(" + h + ", 0)", h % 2);
            x.is("about(" + h + ", 2)", h);
        }
        x.is("about(40, 0)", CallBoard.NUMBER);
        x.is("count(-1, 1)", 40);
    }

    private static void handlerAtFirst() {
        Run x = due.term("a CODE or ANY (-1; at first) and a RANGE from a low to a high int (at first from the least to the greatest)");
        makeTwo(x);
        x.all(-1, "about(0, 5)", "about(1, 5)", "about(1, 6)");
        x.all(Due.MIN, "about(0, 7)", "about(1, 7)", "about(1, 8)");
        x.all(Due.MAX, "about(0, 9)", "about(1, 9)", "about(1, 10)");
        Run y = due.term("and is MAKING (at first), LAID, or LIFTED.");
        makeTwo(y);
        y.is("about(0, 4)", 0);
        y.is("count(0, 1)", 0);
        y.does("lay(0)");
        y.is("about(0, 4)", 1);
        y.is("count(0, 1)", 1);
        y.does("lift(0)");
        y.is("about(0, 4)", 2);
        y.is("count(0, 1)", 0);
    }

    private static void handlerFunction() {
        Run x = due.promise(12, "NUMBER: there is no such FUNCTION");
        x.does("close()");
        x.refused("handler(0, 0, 0, false)", CallBoard.NUMBER);
        x.does("function(1)", "function(1)");
        x.is("handler(0, 0, 0, false)", 0);
        x.is("handler(1, 0, 0, true)", 1);
        for (String f : NO_SUCH) {
            x.refused("handler(" + f + ", 0, 0, false)", CallBoard.NUMBER);
        }
        x.does("function(1)", "function(1)");
        x.is("handler(3, 0, 0, false)", 2);
        x.refused("handler(4, 0, 0, false)", CallBoard.NUMBER);
    }

    private static void handlerAction() {
        Run x = due.promise(12, "action isn't 0 .. 7");
        x.does("close()", "function(1)");
        x.is("handler(0, 0, MIN, false)", 0);
        x.is("handler(0, 7, MAX, true)", 1);
        for (String action : new String[] {"-1", "8", "9", "MIN", "MAX"}) {
            x.refused("handler(0, " + action + ", 0, false)", CallBoard.NUMBER);
        }
        x.is("about(0, 1)", 0);
        x.is("about(1, 1)", 7);
        x.is("about(0, 2)", Due.MIN);
        x.is("about(1, 2)", Due.MAX);
        x.does("freeze(0, true)");
        x.is("handler(0, 3, 0, false)", 2);
    }

    private static void handlerFull() {
        Run x = due.promise(12, "FULL: there are 40.");
        x.does("close()", "function(1)", "function(2)", "handler(0, 0, 0, false)", "lay(0)", "lift(0)");
        for (int h = 1; h < 40; h++) {
            x.is("handler(" + h % 2 + ", 0, 0, false)", h);
        }
        x.refused("handler(0, 0, 0, false)", CallBoard.FULL);
        x.refused("handler(1, 7, 0, true)", CallBoard.FULL);
        x.all(CallBoard.NUMBER, "handler(2, 0, 0, false)", "handler(-1, 0, 0, false)");
        x.all(CallBoard.NUMBER, "handler(0, 8, 0, false)", "handler(0, -1, 0, false)");
    }

    // ---- promise 13

    private static void placeIsAnother() {
        Run x = due.promise(13, "The CODE of a HANDLER at a PLACE is another one (-1: ANY): 1.");
        makeTwo(x);
        for (int code = -1; code < 16; code++) {
            x.is("place(1, 0, " + code + ")", 1);
            x.is("about(1, 5)", code);
            x.is("place(1, 1, " + (14 - code) + ")", 1);
            x.is("about(1, 6)", 14 - code);
            x.is("about(1, 5)", code);
        }
        x.is("place(1, 0, 15)", 1);
        x.is("place(1, 0, -1)", 1);
        x.is("about(1, 5)", -1);
        x.is("about(0, 5)", -1);
        x.does("freeze(0, true)");
        x.is("place(0, 0, 4)", 1);
    }

    private static void placeNumber() {
        Run x = due.promise(13, "NUMBER: there is no such HANDLER, its FUNCTION has no such PLACE, code isn't -1 .. 15");
        makeTwo(x);
        x.all(1, "place(0, 0, 0)", "place(1, 0, 15)", "place(1, 1, -1)");
        for (String h : NO_SUCH) {
            x.refused("place(" + h + ", 0, 5)", CallBoard.NUMBER);
        }
        for (String i : new String[] {"-1", "1", "2", "MIN", "MAX"}) {
            x.refused("place(0, " + i + ", 5)", CallBoard.NUMBER);
        }
        for (String i : new String[] {"-1", "2", "3", "MIN", "MAX"}) {
            x.refused("place(1, " + i + ", 5)", CallBoard.NUMBER);
        }
        for (String code : new String[] {"-2", "16", "17", "MIN", "MAX"}) {
            x.refused("place(0, 0, " + code + ")", CallBoard.NUMBER);
            x.refused("place(1, 1, " + code + ")", CallBoard.NUMBER);
        }
    }

    private static void placeState() {
        Run x = due.promise(13, "STATE: it isn't MAKING.");
        makeTwo(x);
        x.does("place(0, 0, 4)", "lay(0)");
        x.refused("place(0, 0, 5)", CallBoard.STATE);
        x.refused("place(0, 0, 4)", CallBoard.STATE);
        x.refused("place(0, 0, -1)", CallBoard.STATE);
        x.all(CallBoard.NUMBER, "place(0, 1, 5)", "place(0, -1, 5)", "place(0, 0, 16)", "place(0, 0, -2)");
        x.does("lift(0)");
        x.refused("place(0, 0, 5)", CallBoard.STATE);
        x.all(CallBoard.NUMBER, "place(0, 1, 5)", "place(0, 0, 16)");
        x.is("place(1, 0, 5)", 1);
    }

    // ---- promise 14

    private static void testIsAnother() {
        Run x = due.promise(14, "The RANGE of a HANDLER at a PLACE is another one: 1.");
        makeTwo(x);
        String[] ranges = {"0 0", "MIN MIN", "MAX MAX", "MIN MAX", "-1 0", "5 9"};
        int[] lows = {0, Due.MIN, Due.MAX, Due.MIN, -1, 5};
        int[] highs = {0, Due.MIN, Due.MAX, Due.MAX, 0, 9};
        for (int k = 0; k < ranges.length; k++) {
            String given = ranges[k].replace(" ", ", ");
            x.is("test(0, 0, " + given + ")", 1);
            x.is("test(1, 1, " + given + ")", 1);
            x.is("about(0, 7)", lows[k]);
            x.is("about(0, 9)", highs[k]);
            x.is("about(1, 8)", lows[k]);
            x.is("about(1, 10)", highs[k]);
            x.is("about(1, 7)", Due.MIN);
            x.is("about(1, 9)", Due.MAX);
        }
        x.does("freeze(0, true)");
        x.is("test(0, 0, 1, 2)", 1);
    }

    private static void testNumber() {
        Run x = due.promise(14, "NUMBER: there is no such HANDLER, its FUNCTION has no such PLACE, low is above high");
        makeTwo(x);
        x.all(1, "test(0, 0, 5, 5)", "test(1, 1, 5, 6)", "test(1, 0, -6, -5)");
        for (String h : NO_SUCH) {
            x.refused("test(" + h + ", 0, 1, 2)", CallBoard.NUMBER);
        }
        for (String i : new String[] {"-1", "1", "2", "MIN", "MAX"}) {
            x.refused("test(0, " + i + ", 1, 2)", CallBoard.NUMBER);
        }
        for (String i : new String[] {"-1", "2", "3", "MIN", "MAX"}) {
            x.refused("test(1, " + i + ", 1, 2)", CallBoard.NUMBER);
        }
        for (String range : new String[] {"6, 5", "0, -1", "MAX, MIN", "MAX, 2147483646", "-2147483647, MIN", "1, MIN", "MAX, -1"}) {
            x.refused("test(0, 0, " + range + ")", CallBoard.NUMBER);
            x.refused("test(1, 1, " + range + ")", CallBoard.NUMBER);
        }
    }

    private static void testState() {
        Run x = due.promise(14, "STATE: it isn't MAKING.");
        makeTwo(x);
        x.does("test(0, 0, 4, 5)", "lay(0)");
        x.refused("test(0, 0, 5, 6)", CallBoard.STATE);
        x.refused("test(0, 0, 4, 5)", CallBoard.STATE);
        x.refused("test(0, 0, MIN, MAX)", CallBoard.STATE);
        x.all(CallBoard.NUMBER, "test(0, 1, 5, 6)", "test(0, -1, 5, 6)", "test(0, 0, 6, 5)");
        x.does("lift(0)");
        x.refused("test(0, 0, 5, 6)", CallBoard.STATE);
        x.all(CallBoard.NUMBER, "test(0, 1, 5, 6)", "test(0, 0, 6, 5)");
        x.is("test(1, 0, 5, 6)", 1);
    }

    // ---- promise 15

    private static void layNumber() {
        Run x = due.promise(15, "A HANDLER is LAID: 1. NUMBER: there is no such HANDLER");
        makeTwo(x);
        x.all(1, "lay(0)", "lay(1)", "about(0, 4)", "about(1, 4)");
        for (String h : NO_SUCH) {
            x.refused("lay(" + h + ")", CallBoard.NUMBER);
        }
    }

    private static void layState() {
        Run x = due.promise(15, "STATE: it isn't MAKING, or its FUNCTION is FROZEN");
        makeTwo(x);
        x.does("freeze(0, true)");
        x.refused("lay(0)", CallBoard.STATE);
        x.is("lay(1)", 1);
        x.refused("lay(1)", CallBoard.STATE);
        x.does("freeze(0, false)");
        x.is("lay(0)", 1);
        x.does("lift(0)");
        x.refused("lay(0)", CallBoard.STATE);
        x.does("freeze(0, true)");
        x.refused("lay(0)", CallBoard.STATE);
    }

    private static void layLoop() {
        Run x = due.promise(15, "LOOP: a LAID one of its FUNCTION that is AROUND just if it is, is the SAME at each PLACE");
        x.does("close()", "function(2)", "function(2)");
        x.lays(0, 0, 0, false, "3 5 9", "-1 5 9");
        x.makes(0, 4, 8, false, "3 5 9", "-1 5 9");
        x.refused("lay(1)", CallBoard.LOOP);
        String[][] others = {{"4 5 9", "-1 5 9"}, {"-1 5 9", "-1 5 9"}, {"3 5 9", "3 5 9"}, {"3 4 9", "-1 5 9"},
            {"3 5 10", "-1 5 9"}, {"3 5 9", "-1 6 9"}, {"3 5 9", "-1 5 8"}};
        for (String[] other : others) {
            Run y = x.again();
            int h = y.makes(0, 0, 0, false, other);
            y.is("lay(" + h + ")", 1);
            y.is("lay(1)", CallBoard.LOOP);
        }
        Run elsewhere = x.again();
        elsewhere.lays(1, 0, 0, false, "3 5 9", "-1 5 9");
        elsewhere.makes(1, 0, 0, false, "3 5 9", "-1 5 9");
        elsewhere.is("lay(3)", CallBoard.LOOP);

        Run one = due.promise(15, "is the SAME at each PLACE");
        one.does("close()", "function(1)", "handler(0, 0, 0, false)", "handler(0, 7, 1, false)", "lay(0)");
        one.refused("lay(1)", CallBoard.LOOP);
        one.does("test(1, 0, MIN, 2147483646)");
        one.is("lay(1)", 1);
    }

    private static void layLoopOnlyOfLaid() {
        Run x = due.promise(15, "LOOP: a LAID one");
        x.does("close()", "function(1)");
        x.makes(0, 0, 0, false, "3 5 9");
        x.makes(0, 0, 0, false, "3 5 9");
        x.makes(0, 0, 0, false, "3 5 9");
        x.is("lay(1)", 1);
        x.refused("lay(0)", CallBoard.LOOP);
        x.refused("lay(2)", CallBoard.LOOP);
        x.does("lift(1)");
        x.is("lay(2)", 1);
        x.refused("lay(0)", CallBoard.LOOP);
        x.does("place(0, 0, 4)");
        x.is("lay(0)", 1);
    }

    private static void layLoopAround() {
        Run x = due.promise(15, "that is AROUND just if it is");
        x.does("close()", "function(1)");
        x.lays(0, 0, 0, true, "3 5 9");
        x.lays(0, 0, 0, false, "3 5 9");
        x.makes(0, 0, 0, true, "3 5 9");
        x.makes(0, 0, 0, false, "3 5 9");
        x.refused("lay(2)", CallBoard.LOOP);
        x.refused("lay(3)", CallBoard.LOOP);
        x.does("lift(0)");
        x.refused("lay(3)", CallBoard.LOOP);
        x.is("lay(2)", 1);
    }

    /** Makes ten handlers of function 0 that are all different, the last but one around. */
    private static void makeTen(Run x) {
        x.does("close()", "function(1)", "function(1)");
        for (int h = 0; h < 10; h++) {
            x.makes(0, 0, h, h == 7, "-1 " + h + " " + h);
        }
    }

    private static void layFull() {
        Run x = due.promise(15, "FULL: 8 of its FUNCTION are LAID.");
        makeTen(x);
        for (int h = 0; h < 8; h++) {
            x.is("lay(" + h + ")", 1);
        }
        x.refused("lay(8)", CallBoard.FULL);
        x.refused("lay(9)", CallBoard.FULL);
        x.is("count(0, 1)", 8);
        x.does("handler(1, 0, 0, false)");
        x.is("lay(10)", 1);
        x.does("lift(7)");
        x.is("lay(9)", 1);
        x.refused("lay(8)", CallBoard.FULL);
    }

    private static void layRefusalsInOrder() {
        Run x = due.term("Of several refusals that a call names the first one named is answered.");
        makeTen(x);
        for (int h = 0; h < 8; h++) {
            x.does("lay(" + h + ")");
        }
        int same = x.makes(0, 0, 0, false, "-1 3 3");
        x.is("lay(" + same + ")", CallBoard.LOOP);
        x.is("lay(3)", CallBoard.STATE);
        x.does("freeze(0, true)");
        x.is("lay(" + same + ")", CallBoard.STATE);
        x.is("lay(8)", CallBoard.STATE);
        x.is("lay(11)", CallBoard.NUMBER);
    }

    // ---- promise 16

    private static void liftNumber() {
        Run x = due.promise(16, "A HANDLER is LIFTED: 1. NUMBER: there is no such HANDLER");
        makeTwo(x);
        x.does("lay(0)", "lay(1)");
        x.all(1, "lift(0)", "lift(1)");
        x.all(2, "about(0, 4)", "about(1, 4)");
        for (String h : NO_SUCH) {
            x.refused("lift(" + h + ")", CallBoard.NUMBER);
        }
    }

    private static void liftState() {
        Run x = due.promise(16, "STATE: it isn't LAID, or its FUNCTION is FROZEN.");
        makeTwo(x);
        x.refused("lift(0)", CallBoard.STATE);
        x.does("lay(0)", "lay(1)", "freeze(0, true)");
        x.refused("lift(0)", CallBoard.STATE);
        x.is("lift(1)", 1);
        x.refused("lift(1)", CallBoard.STATE);
        x.does("freeze(0, false)");
        x.is("lift(0)", 1);
        x.refused("lift(0)", CallBoard.STATE);
    }

    // ---- promise 17

    private static void freezeAnswers() {
        Run x = due.promise(17, "A FUNCTION is FROZEN, or not any more: 1; 0 if it was so.");
        x.does("close()", "function(1)", "function(2)");
        x.is("count(0, 2)", 0);
        x.is("freeze(0, false)", 0);
        x.is("freeze(0, true)", 1);
        x.is("count(0, 2)", 1);
        x.is("freeze(0, true)", 0);
        x.is("count(0, 2)", 1);
        x.is("count(1, 2)", 0);
        x.is("freeze(1, true)", 1);
        x.is("freeze(0, false)", 1);
        x.is("freeze(0, false)", 0);
        x.is("count(0, 2)", 0);
        x.is("count(1, 2)", 1);
        x.is("freeze(0, true)", 1);
    }

    private static void freezeNumber() {
        Run x = due.promise(17, "NUMBER: there is none such.");
        x.does("close()");
        x.refused("freeze(0, true)", CallBoard.NUMBER);
        x.does("function(1)", "function(2)");
        for (String f : NO_SUCH) {
            x.refused("freeze(" + f + ", true)", CallBoard.NUMBER);
            x.refused("freeze(" + f + ", false)", CallBoard.NUMBER);
        }
        x.does("function(1)", "function(2)");
        x.is("freeze(3, true)", 1);
        x.refused("freeze(4, true)", CallBoard.NUMBER);
    }

    // ---- promise 18

    private static void aboutAll() {
        Run x = due.promise(18, "(0 where its FUNCTION has no such PLACE)");
        x.does("close()", "function(1)", "function(2)");
        x.makes(0, 7, Due.MIN, true, "15 MIN -1");
        x.makes(1, 1, Due.MAX, false, "0 -3 MAX", "11 MAX MAX");
        int[] one = {0, 7, Due.MIN, 1, 0, 15, 0, Due.MIN, 0, -1, 0};
        int[] two = {1, 1, Due.MAX, 0, 0, 0, 11, -3, Due.MAX, Due.MAX, Due.MAX};
        for (int what = 0; what <= 10; what++) {
            x.is("about(0, " + what + ")", one[what]);
            x.is("about(1, " + what + ")", two[what]);
        }
    }

    private static void aboutNumber() {
        Run x = due.promise(18, "NUMBER: there is none such, another what.");
        x.does("close()", "function(2)");
        x.is("about(0, 0)", CallBoard.NUMBER);
        x.does("handler(0, 3, 4, false)", "handler(0, 5, 6, true)");
        x.is("about(1, 0)", 0);
        x.is("about(1, 10)", Due.MAX);
        for (String h : NO_SUCH) {
            x.is("about(" + h + ", 0)", CallBoard.NUMBER);
            x.is("about(" + h + ", 10)", CallBoard.NUMBER);
        }
        for (String what : new String[] {"-1", "11", "12", "MIN", "MAX"}) {
            x.is("about(1, " + what + ")", CallBoard.NUMBER);
        }
        for (int h = 2; h < 40; h++) {
            x.does("handler(0, 0, " + h + ", false)");
        }
        x.is("about(39, 2)", 39);
        x.is("about(40, 2)", CallBoard.NUMBER);
    }
}

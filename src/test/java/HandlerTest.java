/** Promises 11 to 20: functions and handlers. */
public final class HandlerTest {
    private static final Due due = new Due();

    public static void main(String[] args) {
        functions();
        handlers();
        places();
        tests();
        laying();
        layingTheSame();
        layingMany();
        lifting();
        freezing();
        aboutHandlers();
        dominating();
        dominatingTwoPlaces();
        ordering();
        due.end();
    }

    private static void functions() {
        CallBoard x = new CallBoard();
        due.is("function(1) while open", x.function(1), CallBoard.STATE);
        due.is("function(0) while open", x.function(0), CallBoard.NUMBER);
        x.close();
        due.is("function(0)", x.function(0), CallBoard.NUMBER);
        due.is("function(3)", x.function(3), CallBoard.NUMBER);
        due.is("function(-1)", x.function(-1), CallBoard.NUMBER);
        due.is("function(MAX)", x.function(Due.MAX), CallBoard.NUMBER);
        due.is("function(1)", x.function(1), 0);
        due.is("function(2)", x.function(2), 1);
        due.is("function(2)", x.function(2), 2);
        due.is("function(1)", x.function(1), 3);
        due.is("function(1) of 4", x.function(1), CallBoard.FULL);
        due.is("function(3) of 4", x.function(3), CallBoard.NUMBER);
        due.is("count(-1, 0)", x.count(-1, 0), 4);
        due.is("handler(4, 0, ..) of 4", x.handler(4, 0, 0, false), CallBoard.NUMBER);
        due.is("freeze(4, true) of 4", x.freeze(4, true), CallBoard.NUMBER);
        due.is("covered(4) of 4", x.covered(4), CallBoard.NUMBER);
        due.is("count(1, 0)", x.count(1, 0), 2);
        due.is("count(3, 0)", x.count(3, 0), 1);
    }

    private static void handlers() {
        CallBoard x = Due.closedBoard();
        due.is("handler of no function", x.handler(0, 0, 0, false), CallBoard.NUMBER);
        x.function(1);
        due.is("handler(0, -1, ..)", x.handler(0, -1, 0, false), CallBoard.NUMBER);
        due.is("handler(0, 8, ..)", x.handler(0, 8, 0, false), CallBoard.NUMBER);
        due.is("handler(1, 0, ..)", x.handler(1, 0, 0, false), CallBoard.NUMBER);
        due.is("handler(-1, 0, ..)", x.handler(-1, 0, 0, false), CallBoard.NUMBER);
        due.is("handler(4, 0, ..)", x.handler(4, 0, 0, false), CallBoard.NUMBER);
        for (int h = 0; h < 40; h++) {
            due.is("handler " + h, x.handler(0, h % 8, h, h % 2 == 0), h);
            due.is("about " + h, x.about(h, 4), 0);
        }
        due.is("handler of 40", x.handler(0, 0, 0, false), CallBoard.FULL);
        due.is("handler of 40, wrong", x.handler(0, 8, 0, false), CallBoard.NUMBER);
        due.is("count(-1, 1)", x.count(-1, 1), 40);
        due.is("about(39, 2)", x.about(39, 2), 39);
        due.is("about(40, 2)", x.about(40, 2), CallBoard.NUMBER);
    }

    private static void places() {
        CallBoard x = Due.closedBoard();
        x.function(1);
        x.function(2);
        x.handler(0, 0, 0, false);
        x.handler(1, 0, 0, false);
        due.is("place(0, 0, 15)", x.place(0, 0, 15), 1);
        due.is("about(0, 5)", x.about(0, 5), 15);
        due.is("place(0, 0, 15) again", x.place(0, 0, 15), 1);
        due.is("place(0, 0, -1)", x.place(0, 0, -1), 1);
        due.is("about(0, 5) any", x.about(0, 5), -1);
        due.is("place(0, 1, 0)", x.place(0, 1, 0), CallBoard.NUMBER);
        due.is("place(0, -1, 0)", x.place(0, -1, 0), CallBoard.NUMBER);
        due.is("place(1, 1, 0)", x.place(1, 1, 0), 1);
        due.is("about(1, 6)", x.about(1, 6), 0);
        due.is("about(1, 5)", x.about(1, 5), -1);
        due.is("place(1, 2, 0)", x.place(1, 2, 0), CallBoard.NUMBER);
        due.is("place(1, 0, 16)", x.place(1, 0, 16), CallBoard.NUMBER);
        due.is("place(1, 0, -2)", x.place(1, 0, -2), CallBoard.NUMBER);
        due.is("place(2, 0, 0)", x.place(2, 0, 0), CallBoard.NUMBER);
        due.is("place(-1, 0, 0)", x.place(-1, 0, 0), CallBoard.NUMBER);
        due.is("place(MAX, MAX, MAX)", x.place(Due.MAX, Due.MAX, Due.MAX), CallBoard.NUMBER);
        x.freeze(1, true);
        due.is("place(1, 0, 3) of a frozen function", x.place(1, 0, 3), 1);
        x.lay(0);
        due.is("place(0, 0, 1) when laid", x.place(0, 0, 1), CallBoard.STATE);
        due.is("place(0, 0, 16) when laid", x.place(0, 0, 16), CallBoard.NUMBER);
        due.is("place(0, 1, 1) when laid", x.place(0, 1, 1), CallBoard.NUMBER);
        x.lift(0);
        due.is("place(0, 0, 1) when lifted", x.place(0, 0, 1), CallBoard.STATE);
        due.is("about(0, 5) after refusals", x.about(0, 5), -1);
    }

    private static void tests() {
        CallBoard x = Due.closedBoard();
        x.function(1);
        x.function(2);
        x.handler(0, 0, 0, false);
        x.handler(1, 0, 0, false);
        due.is("test(0, 0, 5, 5)", x.test(0, 0, 5, 5), 1);
        due.is("about(0, 7)", x.about(0, 7), 5);
        due.is("about(0, 9)", x.about(0, 9), 5);
        due.is("test(0, 0, MIN, MAX)", x.test(0, 0, Due.MIN, Due.MAX), 1);
        due.is("test(0, 0, 6, 5)", x.test(0, 0, 6, 5), CallBoard.NUMBER);
        due.is("test(0, 0, MAX, MIN)", x.test(0, 0, Due.MAX, Due.MIN), CallBoard.NUMBER);
        due.is("test(0, 1, 0, 1)", x.test(0, 1, 0, 1), CallBoard.NUMBER);
        due.is("test(0, -1, 0, 1)", x.test(0, -1, 0, 1), CallBoard.NUMBER);
        due.is("test(1, 1, -3, 4)", x.test(1, 1, -3, 4), 1);
        due.is("about(1, 8)", x.about(1, 8), -3);
        due.is("about(1, 10)", x.about(1, 10), 4);
        due.is("about(1, 7)", x.about(1, 7), Due.MIN);
        due.is("test(1, 2, 0, 1)", x.test(1, 2, 0, 1), CallBoard.NUMBER);
        due.is("test(2, 0, 0, 1)", x.test(2, 0, 0, 1), CallBoard.NUMBER);
        due.is("test(-1, 0, 0, 1)", x.test(-1, 0, 0, 1), CallBoard.NUMBER);
        x.lay(0);
        due.is("test(0, 0, 0, 1) when laid", x.test(0, 0, 0, 1), CallBoard.STATE);
        due.is("test(0, 0, 2, 1) when laid", x.test(0, 0, 2, 1), CallBoard.NUMBER);
        x.lift(0);
        due.is("test(0, 0, 0, 1) when lifted", x.test(0, 0, 0, 1), CallBoard.STATE);
        due.is("about(0, 7) after refusals", x.about(0, 7), Due.MIN);
        due.is("about(0, 9) after refusals", x.about(0, 9), Due.MAX);
    }

    private static void laying() {
        CallBoard x = Due.closedBoard();
        x.function(1);
        x.handler(0, 0, 0, false);
        due.is("lay(1)", x.lay(1), CallBoard.NUMBER);
        due.is("lay(-1)", x.lay(-1), CallBoard.NUMBER);
        x.freeze(0, true);
        due.is("lay(0) when frozen", x.lay(0), CallBoard.STATE);
        due.is("about(0, 4) after a refusal", x.about(0, 4), 0);
        x.freeze(0, false);
        due.is("lay(0)", x.lay(0), 1);
        due.is("about(0, 4)", x.about(0, 4), 1);
        due.is("count(0, 1)", x.count(0, 1), 1);
        due.is("lay(0) again", x.lay(0), CallBoard.STATE);
        x.lift(0);
        due.is("lay(0) when lifted", x.lay(0), CallBoard.STATE);
        due.is("count(0, 1) after lift", x.count(0, 1), 0);
    }

    private static void layingTheSame() {
        CallBoard x = Due.closedBoard();
        x.function(2);
        x.function(2);
        int first = Due.layTwo(x, 0, 0, 0, 3, -1);
        int same = x.handler(0, 1, 9, false);
        x.place(same, 0, 3);
        due.is("lay of the same", x.lay(same), CallBoard.LOOP);
        x.test(same, 1, Due.MIN, Due.MAX - 1);
        due.is("lay of another range", x.lay(same), 1);
        int around = x.handler(0, 0, 0, true);
        x.place(around, 0, 3);
        due.is("lay of one around", x.lay(around), 1);
        int aroundToo = x.handler(0, 0, 5, true);
        x.place(aroundToo, 0, 3);
        due.is("lay of the same around", x.lay(aroundToo), CallBoard.LOOP);
        int elsewhere = x.handler(1, 0, 0, false);
        x.place(elsewhere, 0, 3);
        due.is("lay of the same of another function", x.lay(elsewhere), 1);
        int turned = x.handler(0, 0, 0, false);
        x.place(turned, 1, 3);
        due.is("lay of one the same at turned places", x.lay(turned), 1);
        int again = x.handler(0, 0, 0, false);
        x.place(again, 0, 3);
        due.is("lay while the same is laid", x.lay(again), CallBoard.LOOP);
        x.lift(first);
        due.is("lay when the same is lifted", x.lay(again), 1);
        int lastly = x.handler(0, 0, 0, false);
        x.place(lastly, 0, 3);
        x.freeze(0, true);
        due.is("lay of the same when frozen", x.lay(lastly), CallBoard.STATE);
    }

    private static void layingMany() {
        CallBoard x = Due.closedBoard();
        x.function(1);
        x.function(1);
        for (int h = 0; h < 10; h++) {
            x.handler(0, 0, 0, h == 3);
            x.place(h, 0, h == 9 ? 0 : h);
        }
        for (int h = 0; h < 8; h++) {
            due.is("lay(" + h + ")", x.lay(h), 1);
        }
        due.is("lay(8) of 8", x.lay(8), CallBoard.FULL);
        due.is("lay(9) of 8, the same", x.lay(9), CallBoard.LOOP);
        due.is("about(8, 4) after FULL", x.about(8, 4), 0);
        due.is("count(0, 1)", x.count(0, 1), 8);
        x.handler(1, 0, 0, false);
        due.is("lay(10) of another function", x.lay(10), 1);
        x.lift(5);
        due.is("lay(8) of 7", x.lay(8), 1);
        due.is("count(0, 1)", x.count(0, 1), 8);
        due.is("count(1, 1)", x.count(1, 1), 1);
    }

    private static void lifting() {
        CallBoard x = Due.closedBoard();
        x.function(1);
        x.handler(0, 0, 0, false);
        due.is("lift(0) when making", x.lift(0), CallBoard.STATE);
        due.is("lift(1)", x.lift(1), CallBoard.NUMBER);
        due.is("lift(-1)", x.lift(-1), CallBoard.NUMBER);
        x.lay(0);
        x.freeze(0, true);
        due.is("lift(0) when frozen", x.lift(0), CallBoard.STATE);
        due.is("about(0, 4)", x.about(0, 4), 1);
        x.freeze(0, false);
        due.is("lift(0)", x.lift(0), 1);
        due.is("about(0, 4)", x.about(0, 4), 2);
        due.is("lift(0) again", x.lift(0), CallBoard.STATE);
        due.is("order(0, 0)", x.order(0, 0), -1);
    }

    private static void freezing() {
        CallBoard x = Due.closedBoard();
        x.function(1);
        due.is("freeze(0, false) at first", x.freeze(0, false), 0);
        due.is("freeze(0, true)", x.freeze(0, true), 1);
        due.is("count(0, 2)", x.count(0, 2), 1);
        due.is("freeze(0, true) again", x.freeze(0, true), 0);
        due.is("freeze(0, false)", x.freeze(0, false), 1);
        due.is("count(0, 2)", x.count(0, 2), 0);
        due.is("freeze(1, true)", x.freeze(1, true), CallBoard.NUMBER);
        due.is("freeze(-1, true)", x.freeze(-1, true), CallBoard.NUMBER);
        due.is("freeze(4, false)", x.freeze(4, false), CallBoard.NUMBER);
    }

    private static void aboutHandlers() {
        CallBoard x = Due.closedBoard();
        x.function(1);
        x.function(2);
        x.handler(1, 7, -5, true);
        x.place(0, 0, 4);
        x.place(0, 1, 12);
        x.test(0, 0, 1, 2);
        x.test(0, 1, 3, 4);
        int[] two = {1, 7, -5, 1, 0, 4, 12, 1, 3, 2, 4};
        for (int what = 0; what <= 10; what++) {
            due.is("about(0, " + what + ")", x.about(0, what), two[what]);
        }
        x.handler(0, 3, Due.MAX, false);
        int[] one = {0, 3, Due.MAX, 0, 0, -1, 0, Due.MIN, 0, Due.MAX, 0};
        for (int what = 0; what <= 10; what++) {
            due.is("about(1, " + what + ")", x.about(1, what), one[what]);
        }
        due.is("about(1, 11)", x.about(1, 11), CallBoard.NUMBER);
        due.is("about(1, -1)", x.about(1, -1), CallBoard.NUMBER);
        due.is("about(2, 0)", x.about(2, 0), CallBoard.NUMBER);
        due.is("about(-1, 0)", x.about(-1, 0), CallBoard.NUMBER);
        x.lay(1);
        due.is("about(1, 4) laid", x.about(1, 4), 1);
        x.lift(1);
        due.is("about(1, 4) lifted", x.about(1, 4), 2);
    }

    private static CallBoard smallTable() {
        CallBoard x = new CallBoard();
        x.parent(1, 0);
        x.parent(2, 1);
        x.has(1, 12);
        x.trait(12, 13);
        x.close();
        return x;
    }

    private static void dominating() {
        CallBoard x = smallTable();
        x.function(1);
        x.function(1);
        int any = x.handler(0, 0, 0, false);
        int zero = x.handler(0, 0, 0, false);
        x.place(zero, 0, 0);
        int two = x.handler(0, 0, 0, false);
        x.place(two, 0, 2);
        int trait = x.handler(0, 0, 0, true);
        x.place(trait, 0, 13);
        int part = x.handler(0, 0, 0, false);
        x.place(part, 0, 2);
        x.test(part, 0, 3, 9);
        int elsewhere = x.handler(1, 0, 0, false);
        x.place(elsewhere, 0, 2);
        int anyPart = x.handler(0, 0, 0, false);
        x.test(anyPart, 0, 4, 5);
        int crossing = x.handler(0, 0, 0, false);
        x.place(crossing, 0, 2);
        x.test(crossing, 0, 5, 11);
        due.is("a code is narrower than any", x.dominates(zero, any), true);
        due.is("any is not narrower than a code", x.dominates(any, zero), false);
        due.is("a class below", x.dominates(two, zero), true);
        due.is("a class above", x.dominates(zero, two), false);
        due.is("a class below a trait", x.dominates(two, trait), true);
        due.is("a trait and a class beside", x.dominates(zero, trait), false);
        due.is("not itself", x.dominates(two, two), false);
        due.is("a range within", x.dominates(part, two), true);
        due.is("a range around", x.dominates(two, part), false);
        due.is("ranges that cross", x.dominates(part, crossing), false);
        due.is("any with a range within", x.dominates(anyPart, any), true);
        due.is("a code below, whatever the range", x.dominates(two, anyPart), true);
        due.is("any with a smaller range", x.dominates(anyPart, two), false);
        due.is("two functions", x.dominates(elsewhere, zero), false);
        due.is("two functions", x.dominates(part, elsewhere), false);
        due.is("no such", x.dominates(8, 0), false);
        due.is("no such", x.dominates(2, 8), false);
        due.is("no such", x.dominates(-1, -1), false);
        x.lay(two);
        x.lay(zero);
        x.lift(zero);
        due.is("laid and lifted", x.dominates(two, zero), true);
        x.test(part, 0, Due.MIN, 9);
        due.is("a range that ends within", x.dominates(part, two), true);
        x.test(part, 0, Due.MIN, Due.MAX);
        due.is("the same range", x.dominates(part, two), false);
    }

    private static void dominatingTwoPlaces() {
        CallBoard x = smallTable();
        x.function(2);
        int a = x.handler(0, 0, 0, false);
        x.place(a, 0, 2);
        int b = x.handler(0, 0, 0, false);
        x.place(b, 0, 1);
        due.is("narrower and the same", x.dominates(a, b), true);
        x.place(b, 1, 0);
        due.is("narrower and wider", x.dominates(a, b), false);
        due.is("wider and narrower", x.dominates(b, a), false);
        x.place(a, 1, 1);
        due.is("narrower twice", x.dominates(a, b), true);
        x.place(a, 0, 1);
        due.is("the same and narrower", x.dominates(a, b), true);
        x.test(a, 0, 1, 5);
        x.test(b, 0, 2, 6);
        due.is("crossing and narrower", x.dominates(a, b), false);
    }

    private static void ordering() {
        CallBoard x = smallTable();
        x.function(1);
        x.function(1);
        int any = x.handler(0, 0, 0, false);
        int zero = x.handler(0, 0, 0, true);
        x.place(zero, 0, 0);
        int three = x.handler(0, 0, 0, false);
        x.place(three, 0, 3);
        int two = x.handler(0, 0, 0, false);
        x.place(two, 0, 2);
        int making = x.handler(0, 0, 0, false);
        x.place(making, 0, 4);
        x.lay(two);
        x.lay(any);
        x.lay(three);
        x.lay(zero);
        // zero waits for two, and any for all others.
        int[] want = {three, two, zero, any, -1};
        for (int k = 0; k < want.length; k++) {
            due.is("order(0, " + k + ")", x.order(0, k), want[k]);
        }
        due.is("order(0, -1)", x.order(0, -1), -1);
        due.is("order(0, 8)", x.order(0, 8), -1);
        due.is("order(1, 0)", x.order(1, 0), -1);
        due.is("order(2, 0)", x.order(2, 0), -1);
        due.is("order(-1, 0)", x.order(-1, 0), -1);
        x.lift(two);
        due.is("order(0, 0) after lift", x.order(0, 0), zero);
        due.is("order(0, 1) after lift", x.order(0, 1), three);
        due.is("order(0, 2) after lift", x.order(0, 2), any);
        due.is("order(0, 3) after lift", x.order(0, 3), -1);
    }
}

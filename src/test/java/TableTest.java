/** Promises 1 to 7: a new object and the table. */
public final class TableTest {
    private static final Due due = new Due();

    public static void main(String[] args) {
        newObject();
        parents();
        traits();
        hasTraits();
        flags();
        closing();
        loops();
        belowAll();
        due.end();
    }

    private static void newObject() {
        CallBoard x = new CallBoard();
        due.is("new samples()", x.samples(), 0);
        for (int what = 0; what <= 4; what++) {
            due.is("new count(-1, " + what + ")", x.count(-1, what), 0);
        }
        for (int k = 0; k < 8; k++) {
            due.is("new counter", x.counter(k), 0);
        }
        due.is("new value()", x.value(), 0);
        due.is("new failure()", x.failure(), 0);
        due.is("new step(0)", x.step(0), -1);
        due.is("new where()", x.where(), -1);
        due.is("new below(3, 3)", x.below(3, 3), false);
        due.is("new covered(0)", x.covered(0), CallBoard.NUMBER);
        due.is("new hole(0, 0)", x.hole(0, 0), Due.NO_PROOF);
        due.is("new doubt(0, 0, 0)", x.doubt(0, 0, 0), Due.NO_PROOF);
        due.is("new order(0, 0)", x.order(0, 0), -1);
        due.is("new applicable(0, 0)", x.applicable(0, 0), -1);
        due.is("new most(0)", x.most(0), -1);
        due.is("new call(0)", x.call(0), CallBoard.NUMBER);
        due.is("new arg(0, 0)", x.arg(0, 0), CallBoard.NUMBER);
        due.is("new about(0, 0)", x.about(0, 0), CallBoard.NUMBER);
        due.is("new explain(0)", x.explain(0), CallBoard.NUMBER);
    }

    private static void parents() {
        CallBoard x = new CallBoard();
        due.is("parent(0, 11)", x.parent(0, 11), 1);
        due.is("parent(0, 11) again", x.parent(0, 11), 1);
        due.is("parent(11, 4)", x.parent(11, 4), 1);
        due.is("parent(3, 5)", x.parent(3, 5), 1);
        due.is("parent(3, 6)", x.parent(3, 6), 1);
        due.is("parent(7, 8)", x.parent(7, 8), 1);
        due.is("parent(7, -1)", x.parent(7, -1), 1);
        due.is("parent(7, -1) again", x.parent(7, -1), 1);
        due.is("parent(-1, 0)", x.parent(-1, 0), CallBoard.NUMBER);
        due.is("parent(12, 0)", x.parent(12, 0), CallBoard.NUMBER);
        due.is("parent(0, 12)", x.parent(0, 12), CallBoard.NUMBER);
        due.is("parent(0, -2)", x.parent(0, -2), CallBoard.NUMBER);
        due.is("parent(MIN, MAX)", x.parent(Due.MIN, Due.MAX), CallBoard.NUMBER);
        due.is("close()", x.close(), 1);
        due.is("below(0, 4)", x.below(0, 4), true);
        due.is("below(3, 6)", x.below(3, 6), true);
        due.is("below(3, 5), changed", x.below(3, 5), false);
        due.is("below(7, 8), taken away", x.below(7, 8), false);
        due.is("parent(0, 1) when closed", x.parent(0, 1), CallBoard.STATE);
        due.is("parent(12, 1) when closed", x.parent(12, 1), CallBoard.NUMBER);
        due.is("parent(1, 12) when closed", x.parent(1, 12), CallBoard.NUMBER);
        due.is("below(0, 1) after a refusal", x.below(0, 1), false);
    }

    private static void traits() {
        CallBoard x = new CallBoard();
        due.is("trait(12, 15)", x.trait(12, 15), 1);
        due.is("trait(12, 15) again", x.trait(12, 15), 0);
        due.is("trait(12, 14)", x.trait(12, 14), 1);
        due.is("trait(11, 15)", x.trait(11, 15), CallBoard.NUMBER);
        due.is("trait(16, 15)", x.trait(16, 15), CallBoard.NUMBER);
        due.is("trait(12, 11)", x.trait(12, 11), CallBoard.NUMBER);
        due.is("trait(12, 16)", x.trait(12, 16), CallBoard.NUMBER);
        due.is("trait(-1, MAX)", x.trait(-1, Due.MAX), CallBoard.NUMBER);
        x.close();
        due.is("trait(13, 12) when closed", x.trait(13, 12), CallBoard.STATE);
        due.is("trait(12, 15) when closed", x.trait(12, 15), CallBoard.STATE);
        due.is("trait(0, 12) when closed", x.trait(0, 12), CallBoard.NUMBER);
        due.is("below(12, 15)", x.below(12, 15), true);
        due.is("below(12, 14)", x.below(12, 14), true);
        due.is("below(13, 12)", x.below(13, 12), false);
    }

    private static void hasTraits() {
        CallBoard x = new CallBoard();
        due.is("has(0, 12)", x.has(0, 12), 1);
        due.is("has(0, 12) again", x.has(0, 12), 0);
        due.is("has(0, 15)", x.has(0, 15), 1);
        due.is("has(11, 13)", x.has(11, 13), 1);
        due.is("has(12, 13)", x.has(12, 13), CallBoard.NUMBER);
        due.is("has(-1, 13)", x.has(-1, 13), CallBoard.NUMBER);
        due.is("has(0, 11)", x.has(0, 11), CallBoard.NUMBER);
        due.is("has(0, 16)", x.has(0, 16), CallBoard.NUMBER);
        x.close();
        due.is("has(1, 12) when closed", x.has(1, 12), CallBoard.STATE);
        due.is("has(0, 12) when closed", x.has(0, 12), CallBoard.STATE);
        due.is("has(1, 16) when closed", x.has(1, 16), CallBoard.NUMBER);
        due.is("below(0, 12)", x.below(0, 12), true);
        due.is("below(0, 15)", x.below(0, 15), true);
        due.is("below(0, 13)", x.below(0, 13), false);
        due.is("below(11, 13)", x.below(11, 13), true);
        due.is("below(1, 12)", x.below(1, 12), false);
    }

    private static void flags() {
        CallBoard x = new CallBoard();
        due.is("flag(0)", x.flag(0), 1);
        due.is("flag(11)", x.flag(11), 1);
        due.is("flag(11) again", x.flag(11), 0);
        due.is("flag(12)", x.flag(12), CallBoard.NUMBER);
        due.is("flag(-1)", x.flag(-1), CallBoard.NUMBER);
        due.is("flag(32)", x.flag(32), CallBoard.NUMBER);
        x.parent(1, 0);
        x.close();
        due.is("flag(5) when closed", x.flag(5), CallBoard.STATE);
        due.is("flag(0) when closed", x.flag(0), CallBoard.STATE);
        due.is("flag(12) when closed", x.flag(12), CallBoard.NUMBER);
        due.is("sample(0, 1) of an abstract class", x.sample(0, 1), CallBoard.ABSTRACT);
        due.is("sample(1, 1) of one below it", x.sample(1, 1), 0);
        due.is("sample(5, 1)", x.sample(5, 1), 1);
    }

    private static void closing() {
        CallBoard x = new CallBoard();
        due.is("count(-1, 2) open", x.count(-1, 2), 0);
        due.is("function(1) open", x.function(1), CallBoard.STATE);
        due.is("close()", x.close(), 1);
        due.is("count(-1, 2) closed", x.count(-1, 2), 1);
        due.is("close() again", x.close(), CallBoard.STATE);
        due.is("count(-1, 2) still closed", x.count(-1, 2), 1);
    }

    private static void loops() {
        CallBoard own = new CallBoard();
        due.is("parent(4, 4)", own.parent(4, 4), 1);
        due.is("close() of an own parent", own.close(), CallBoard.LOOP);
        due.is("count(-1, 2) after LOOP", own.count(-1, 2), 0);
        due.is("below(4, 4) after LOOP", own.below(4, 4), false);
        due.is("parent(4, 5) mends it", own.parent(4, 5), 1);
        due.is("close() mended", own.close(), 1);
        due.is("below(4, 5)", own.below(4, 5), true);

        CallBoard all = new CallBoard();
        for (int c = 0; c < 12; c++) {
            all.parent(c, (c + 1) % 12);
        }
        due.is("close() of a loop of 12", all.close(), CallBoard.LOOP);
        all.parent(11, -1);
        due.is("close() of a chain of 12", all.close(), 1);
        due.is("below(0, 11) by a chain", all.below(0, 11), true);
        due.is("below(11, 0) by a chain", all.below(11, 0), false);

        CallBoard ownTrait = new CallBoard();
        due.is("trait(13, 13)", ownTrait.trait(13, 13), 1);
        due.is("trait(13, 13) again", ownTrait.trait(13, 13), 0);
        due.is("close() of a trait that extends itself", ownTrait.close(), CallBoard.LOOP);

        CallBoard ring = new CallBoard();
        ring.trait(12, 13);
        ring.trait(13, 14);
        ring.trait(14, 15);
        ring.trait(15, 12);
        due.is("close() of a ring of traits", ring.close(), CallBoard.LOOP);
        due.is("has(0, 12) after LOOP", ring.has(0, 12), 1);
    }

    private static void belowAll() {
        CallBoard x = new CallBoard();
        x.parent(1, 0);
        x.parent(2, 1);
        x.has(0, 12);
        x.has(2, 14);
        x.trait(12, 13);
        x.trait(14, 13);
        x.trait(13, 15);
        due.is("below(2, 0) while open", x.below(2, 0), false);
        due.is("below(2, 2) while open", x.below(2, 2), false);
        x.close();
        int[] above = {0, 1, 2, 12, 13, 14, 15};
        for (int y = -1; y <= 16; y++) {
            boolean want = false;
            for (int a : above) {
                want |= a == y;
            }
            due.is("below(2, " + y + ")", x.below(2, y), want);
        }
        for (int code = 0; code < 16; code++) {
            due.is("below of itself", x.below(code, code), true);
        }
        due.is("below(0, 15)", x.below(0, 15), true);
        due.is("below(0, 14)", x.below(0, 14), false);
        due.is("below(14, 12)", x.below(14, 12), false);
        due.is("below(0, 2)", x.below(0, 2), false);
        due.is("below(12, 0)", x.below(12, 0), false);
        due.is("below(-1, -1)", x.below(-1, -1), false);
        due.is("below(16, 16)", x.below(16, 16), false);
        due.is("below(MIN, 0)", x.below(Due.MIN, 0), false);
        due.is("below(2, 32)", x.below(2, 32), false);
        due.is("below(0, MAX)", x.below(0, Due.MAX), false);
    }
}

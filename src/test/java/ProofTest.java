/** Promises 32 to 34: holes and doubts. */
public final class ProofTest {
    private static final Due due = new Due();

    public static void main(String[] args) {
        holesOfOnePlace();
        holesByWeights();
        holesOfTwoPlaces();
        holesByDoubt();
        holesWithoutClasses();
        wrongInputs();
        doubts();
        doubtsByWeights();
        doubtsOfTwoPlaces();
        manyDoubts();
        beatenByHalves();
        manyPieces();
        due.end();
    }

    private static CallBoard board() {
        CallBoard x = new CallBoard();
        x.parent(1, 0);
        x.parent(2, 1);
        x.has(1, 12);
        x.has(3, 12);
        x.flag(0);
        x.close();
        return x;
    }

    private static void hole(CallBoard x, int f, long... want) {
        due.is("covered(" + f + ")", x.covered(f), 0);
        for (int what = 0; what < 4; what++) {
            due.is("hole(" + f + ", " + what + ")", x.hole(f, what), want[what]);
        }
    }

    private static void noHole(CallBoard x, int f) {
        due.is("covered(" + f + ")", x.covered(f), 1);
        for (int what = 0; what < 4; what++) {
            due.is("hole(" + f + ", " + what + ")", x.hole(f, what), Due.NO_PROOF);
        }
    }

    private static void doubt(CallBoard x, int k, long... want) {
        for (int what = 0; what < 6; what++) {
            due.is("doubt(0, " + k + ", " + what + ")", x.doubt(0, k, what), want[what]);
        }
    }

    private static void noDoubt(CallBoard x, int k) {
        for (int what = -1; what <= 6; what++) {
            due.is("doubt(0, " + k + ", " + what + ")", x.doubt(0, k, what), Due.NO_PROOF);
        }
    }

    private static void holesOfOnePlace() {
        CallBoard x = board();
        x.function(1);
        hole(x, 0, 1, 0, Due.MIN, 0);
        Due.lay(x, 0, 0, 0, 12);
        hole(x, 0, 4, 0, Due.MIN, 0);
        Due.layAround(x, 0, 0, -1, Due.MIN, Due.MAX);
        hole(x, 0, 4, 0, Due.MIN, 0);
        int any = Due.lay(x, 0, 3, 0, -1);
        noHole(x, 0);
        x.lift(any);
        hole(x, 0, 4, 0, Due.MIN, 0);
    }

    private static void holesByWeights() {
        CallBoard x = board();
        x.function(1);
        int low = Due.lay(x, 0, 0, 0, -1, Due.MIN, -1);
        hole(x, 0, 1, 0, 0, 0);
        Due.lay(x, 0, 0, 0, -1, 1, Due.MAX);
        hole(x, 0, 1, 0, 0, 0);
        Due.lay(x, 0, 0, 0, 12, 0, 0);
        hole(x, 0, 4, 0, 0, 0);
        Due.lay(x, 0, 0, 0, -1, 0, 0);
        noHole(x, 0);
        x.lift(low);
        hole(x, 0, 1, 0, Due.MIN, 0);
        Due.lay(x, 0, 0, 0, -1, Due.MIN, -2);
        hole(x, 0, 1, 0, -1, 0);

        CallBoard y = board();
        y.function(1);
        Due.lay(y, 0, 0, 0, -1, Due.MIN, Due.MAX - 1);
        hole(y, 0, 1, 0, Due.MAX, 0);
        Due.lay(y, 0, 0, 0, -1, Due.MAX, Due.MAX);
        noHole(y, 0);
    }

    private static void holesOfTwoPlaces() {
        CallBoard x = board();
        x.function(2);
        hole(x, 0, 1, 1, Due.MIN, Due.MIN);
        int h = x.handler(0, 0, 0, false);
        x.test(h, 0, Due.MIN, 5);
        x.lay(h);
        hole(x, 0, 1, 1, 6, Due.MIN);
        int g = x.handler(0, 0, 0, false);
        x.place(g, 0, 12);
        x.place(g, 1, 12);
        x.lay(g);
        // The class at place 0 comes first in the order, then the weight there.
        hole(x, 0, 1, 4, 6, Due.MIN);
        int more = x.handler(0, 0, 0, false);
        x.place(more, 0, 12);
        x.test(more, 1, Due.MIN, 99);
        x.lay(more);
        hole(x, 0, 1, 4, 6, 100);
    }

    private static void holesByDoubt() {
        CallBoard x = board();
        x.function(1);
        Due.lay(x, 0, 0, 0, -1);
        Due.lay(x, 0, 0, 0, 12, 0, 100);
        noHole(x, 0);
        int crossing = Due.lay(x, 0, 0, 0, 12, 50, 150);
        hole(x, 0, 1, 0, 50, 0);
        int within = Due.lay(x, 0, 0, 0, 12, 50, 100);
        noHole(x, 0);
        x.lift(within);
        Due.lay(x, 0, 0, 0, 1);
        hole(x, 0, 3, 0, 50, 0);
        x.lift(crossing);
        noHole(x, 0);
    }

    private static void holesWithoutClasses() {
        CallBoard x = new CallBoard();
        for (int c = 0; c < 12; c++) {
            x.flag(c);
        }
        x.close();
        x.function(1);
        x.function(2);
        noHole(x, 0);
        noHole(x, 1);
        Due.layTwo(x, 1, 0, 0, 0, -1);
        Due.layTwo(x, 1, 0, 0, -1, 0);
        due.is("doubt without classes", x.doubt(1, 0, 0), Due.NO_PROOF);

        CallBoard last = new CallBoard();
        for (int c = 0; c < 11; c++) {
            last.flag(c);
        }
        last.close();
        last.function(2);
        hole(last, 0, 11, 11, Due.MIN, Due.MIN);
    }

    private static void wrongInputs() {
        CallBoard x = board();
        x.function(1);
        due.is("covered(1)", x.covered(1), CallBoard.NUMBER);
        due.is("covered(-1)", x.covered(-1), CallBoard.NUMBER);
        due.is("covered(4)", x.covered(4), CallBoard.NUMBER);
        due.is("hole(1, 0)", x.hole(1, 0), Due.NO_PROOF);
        due.is("hole(-1, 0)", x.hole(-1, 0), Due.NO_PROOF);
        due.is("hole(0, 4)", x.hole(0, 4), Due.NO_PROOF);
        due.is("hole(0, -1)", x.hole(0, -1), Due.NO_PROOF);
        due.is("doubt(1, 0, 0)", x.doubt(1, 0, 0), Due.NO_PROOF);
        due.is("doubt(-1, 0, 0)", x.doubt(-1, 0, 0), Due.NO_PROOF);
        noDoubt(x, 0);
        Due.lay(x, 0, 0, 0, 12, 0, 100);
        Due.lay(x, 0, 0, 0, 12, 50, 150);
        doubt(x, 0, 0, 1, 1, 0, 50, 0);
        due.is("doubt(0, 0, 6)", x.doubt(0, 0, 6), Due.NO_PROOF);
        due.is("doubt(0, 0, -1)", x.doubt(0, 0, -1), Due.NO_PROOF);
        noDoubt(x, -1);
        noDoubt(x, 1);
        noDoubt(x, Due.MAX);
        noDoubt(x, Due.MIN);
    }

    private static void doubts() {
        CallBoard x = board();
        x.function(1);
        int trait = Due.lay(x, 0, 0, 0, 12);
        int zero = Due.lay(x, 0, 0, 0, 0);
        Due.lay(x, 0, 0, 0, -1);
        doubt(x, 0, trait, zero, 1, 0, Due.MIN, 0);
        noDoubt(x, 1);
        int one = Due.lay(x, 0, 0, 0, 1, Due.MIN, 70);
        doubt(x, 0, trait, zero, 1, 0, 71, 0);
        int around = Due.layAround(x, 0, 0, 1, Due.MIN, Due.MAX);
        doubt(x, 0, trait, zero, 1, 0, 71, 0);
        noDoubt(x, 1);
        x.lift(around);
        int whole = Due.lay(x, 0, 0, 0, 1);
        noDoubt(x, 0);
        x.lift(whole);
        x.lift(one);
        doubt(x, 0, trait, zero, 1, 0, Due.MIN, 0);
    }

    private static void doubtsByWeights() {
        CallBoard x = board();
        x.function(1);
        Due.lay(x, 0, 0, 0, 5, Due.MIN, 10);
        Due.lay(x, 0, 0, 0, 5, 11, Due.MAX);
        noDoubt(x, 0);
        Due.lay(x, 0, 0, 0, 5, 10, 11);
        doubt(x, 0, 0, 2, 5, 0, 10, 0);
        doubt(x, 1, 1, 2, 5, 0, 11, 0);
        noDoubt(x, 2);
        Due.lay(x, 0, 0, 0, 5, 10, 10);
        doubt(x, 0, 1, 2, 5, 0, 11, 0);
        noDoubt(x, 1);
        Due.lay(x, 0, 0, 0, 5, 11, 11);
        noDoubt(x, 0);

        CallBoard y = board();
        y.function(1);
        Due.lay(y, 0, 0, 0, 5, 0, Due.MAX);
        Due.lay(y, 0, 0, 0, 5, Due.MIN, 0);
        doubt(y, 0, 0, 1, 5, 0, 0, 0);
    }

    private static void doubtsOfTwoPlaces() {
        CallBoard x = board();
        x.function(2);
        int first = Due.layTwo(x, 0, 0, 0, 2, -1);
        int second = Due.layTwo(x, 0, 0, 0, -1, 3);
        doubt(x, 0, first, second, 2, 3, Due.MIN, Due.MIN);
        int part = x.handler(0, 0, 0, false);
        x.place(part, 0, 2);
        x.place(part, 1, 3);
        x.test(part, 1, Due.MIN, 8);
        x.lay(part);
        doubt(x, 0, first, second, 2, 3, Due.MIN, 9);
        noDoubt(x, 1);
        Due.layTwo(x, 0, 0, 0, 2, 3);
        noDoubt(x, 0);
    }

    private static void manyDoubts() {
        CallBoard x = board();
        x.function(1);
        for (int h = 0; h < 8; h++) {
            Due.lay(x, 0, 0, 0, 7, h, 10 + h);
        }
        int k = 0;
        for (int g = 0; g < 8; g++) {
            for (int h = g + 1; h < 8; h++) {
                doubt(x, k, g, h, 7, 0, h, 0);
                k++;
            }
        }
        noDoubt(x, k);
        x.lift(0);
        doubt(x, 0, 1, 2, 7, 0, 2, 0);
        noDoubt(x, k - 7);
    }

    private static void beatenByHalves() {
        CallBoard x = board();
        x.function(1);
        int trait = Due.lay(x, 0, 0, 0, 12);
        int zero = Due.lay(x, 0, 0, 0, 0);
        // It is more specific than one of the two alone, so it ends no doubt of them.
        int part = Due.lay(x, 0, 0, 0, 12, Due.MIN, 9);
        doubt(x, 0, trait, zero, 1, 0, Due.MIN, 0);
        doubt(x, 1, zero, part, 1, 0, Due.MIN, 0);
        noDoubt(x, 2);
    }

    /** Each function has pieces of its own, as many as may be, and its first hole where two ranges cross. */
    private static void manyPieces() {
        CallBoard x = board();
        for (int f = 0; f < 4; f++) {
            x.function(f < 2 ? 1 : 2);
            for (int h = 0; h < 7; h++) {
                pieceHandler(x, f, 1000 * f + 20 * h, 1000 * f + 20 * h + 10);
            }
            pieceHandler(x, f, Due.MIN, 1000 * f + 125);
        }
        for (int f = 3; f >= 0; f--) {
            boolean two = f >= 2;
            hole(x, f, 1, two ? 1 : 0, two ? Due.MIN : 1000 * f + 120, two ? 1000 * f + 120 : 0);
        }
        due.is("doubt(1, 0, 4)", x.doubt(1, 0, 4), 1120);
    }

    private static void pieceHandler(CallBoard x, int f, int low, int high) {
        int h = x.handler(f, 0, 0, false);
        x.test(h, f < 2 ? 0 : 1, low, high);
        x.lay(h);
    }
}

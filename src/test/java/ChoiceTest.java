/** Promises 27 to 30: what would be chosen, and why a handler isn't. */
public final class ChoiceTest {
    private static final Due due = new Due();

    public static void main(String[] args) {
        applicable();
        most();
        explaining();
        explainingTwoPlaces();
        due.end();
    }

    private static CallBoard board() {
        CallBoard x = new CallBoard();
        x.parent(1, 0);
        x.parent(2, 1);
        x.has(1, 12);
        x.close();
        return x;
    }

    private static void applicable() {
        CallBoard x = board();
        x.function(1);
        x.function(2);
        int any = Due.lay(x, 0, 0, 0, -1);
        int making = x.handler(0, 0, 0, false);
        int around = Due.layAround(x, 0, 1000, 0, Due.MIN, Due.MAX);
        int out = Due.lay(x, 0, 0, 0, 2, 6, 7);
        int edge = Due.lay(x, 0, 0, 0, 2, 5, 5);
        int zero = Due.lay(x, 0, 0, 0, 0);
        Due.layTwo(x, 1, 0, 0, -1, -1);
        due.is("applicable(0, 0), nothing told", x.applicable(0, 0), -1);
        due.is("most(0), nothing told", x.most(0), -1);
        x.sample(2, 5);
        x.arg(0, 0);
        due.is("applicable(0, 0)", x.applicable(0, 0), any);
        due.is("applicable(0, 1)", x.applicable(0, 1), edge);
        due.is("applicable(0, 2)", x.applicable(0, 2), zero);
        due.is("applicable(0, 3)", x.applicable(0, 3), -1);
        due.is("applicable(0, -1)", x.applicable(0, -1), -1);
        due.is("applicable(0, MAX)", x.applicable(0, Due.MAX), -1);
        due.is("applicable(1, 0), one told", x.applicable(1, 0), -1);
        due.is("applicable(2, 0)", x.applicable(2, 0), -1);
        due.is("applicable(-1, 0)", x.applicable(-1, 0), -1);
        x.arg(1, 0);
        due.is("applicable(1, 0), both told", x.applicable(1, 0), 6);
        due.is("count(0, 4), nothing was looked for", x.count(0, 4), 0);
        x.lift(any);
        due.is("applicable(0, 0) after lift", x.applicable(0, 0), edge);
        due.is("about", x.about(making, 4) + x.about(around, 4) + x.about(out, 4), 2);
    }

    private static void most() {
        CallBoard x = board();
        x.function(1);
        x.function(2);
        x.sample(2, 5);
        x.arg(0, 0);
        due.is("most(0) of none", x.most(0), -1);
        int zero = Due.lay(x, 0, 0, 0, 0);
        due.is("most(0) of one", x.most(0), zero);
        int trait = Due.lay(x, 0, 0, 0, 12);
        due.is("most(0) in doubt", x.most(0), -1);
        int one = Due.lay(x, 0, 0, 0, 1);
        due.is("most(0) of three", x.most(0), one);
        int cross = Due.lay(x, 0, 0, 0, 1, 5, 9);
        due.is("most(0) of four", x.most(0), cross);
        Due.lay(x, 0, 0, 0, 1, 1, 5);
        due.is("most(0), ranges cross", x.most(0), -1);
        due.is("most(1)", x.most(1), -1);
        due.is("most(2)", x.most(2), -1);
        due.is("most(-1)", x.most(-1), -1);
        due.is("about", x.about(trait, 4), 1);
    }

    private static void explaining() {
        CallBoard x = board();
        x.function(1);
        int any = Due.lay(x, 0, 0, 0, -1);
        int zero = Due.lay(x, 0, 0, 0, 0);
        int making = x.handler(0, 0, 0, true);
        int around = Due.layAround(x, 0, 0, 5, 1, 2);
        int out = Due.lay(x, 0, 0, 0, 2, 6, 7);
        due.is("explain(0), nothing told", x.explain(0), CallBoard.STATE);
        due.is("explain of one making, nothing told", x.explain(making), CallBoard.STATE);
        due.is("explain(-1)", x.explain(-1), CallBoard.NUMBER);
        due.is("explain(5)", x.explain(5), CallBoard.NUMBER);
        x.sample(2, 5);
        x.arg(0, 0);
        due.is("explain of the chosen one", x.explain(zero), 0);
        due.is("where()", x.where(), -1);
        due.is("explain of one less specific", x.explain(any), 4);
        due.is("where()", x.where(), zero);
        due.is("explain of one making", x.explain(making), 1);
        due.is("where()", x.where(), -1);
        x.explain(any);
        due.is("explain of one around", x.explain(around), 2);
        due.is("where()", x.where(), -1);
        due.is("explain of one that doesn't take", x.explain(out), 3);
        due.is("where()", x.where(), 0);
        due.is("explain(40)", x.explain(40), CallBoard.NUMBER);
        due.is("where() after a refusal", x.where(), 0);
        int trait = Due.lay(x, 0, 0, 0, 12);
        due.is("explain, none is chosen", x.explain(zero), 5);
        due.is("where()", x.where(), trait);
        due.is("explain, none is chosen", x.explain(trait), 5);
        due.is("where()", x.where(), zero);
        due.is("explain, less specific than two", x.explain(any), 4);
        due.is("where(), the least", x.where(), zero);
        int two = Due.lay(x, 0, 0, 0, 2);
        due.is("explain of the chosen one", x.explain(two), 0);
        due.is("explain of one beaten, in no order with another", x.explain(trait), 4);
        due.is("where()", x.where(), two);
        x.lift(two);
        due.is("where() after lift", x.where(), two);
        due.is("explain of one lifted", x.explain(two), 1);
        due.is("where()", x.where(), -1);
    }

    private static void explainingTwoPlaces() {
        CallBoard x = board();
        x.function(2);
        int first = Due.layTwo(x, 0, 0, 0, 1, -1);
        int second = Due.layTwo(x, 0, 0, 0, -1, 1);
        int any = Due.layTwo(x, 0, 0, 0, -1, -1);
        x.sample(2, 0);
        x.sample(3, 0);
        x.arg(0, 0);
        due.is("explain(0), one told", x.explain(first), CallBoard.STATE);
        x.arg(1, 1);
        due.is("explain at the second place", x.explain(second), 3);
        due.is("where()", x.where(), 1);
        x.arg(0, 1);
        due.is("explain at the second place", x.explain(second), 3);
        due.is("where()", x.where(), 1);
        due.is("explain at the first place", x.explain(first), 3);
        due.is("where()", x.where(), 0);
        due.is("explain(2)", x.explain(any), 0);
        x.arg(0, 0);
        x.arg(1, 0);
        due.is("explain(2)", x.explain(any), 4);
        due.is("where()", x.where(), first);
        due.is("explain(1)", x.explain(second), 5);
        due.is("where(), not one that is less specific", x.where(), first);
        due.is("explain(0)", x.explain(first), 5);
        due.is("where(), not itself", x.where(), second);
    }
}

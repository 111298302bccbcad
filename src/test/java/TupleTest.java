import java.util.ArrayList;
import java.util.Arrays;
import java.util.List;
import java.util.TreeSet;

/**
 * Holes and doubts are looked for among all tuples by telling them as samples: what the board says of each of
 * them one by one must agree with what it proves of all.
 */
public final class TupleTest {
    private static final int BOARDS = 600;
    private static final int CLASSES = 3;
    /** Two samples told, five handlers that take them and are explained, and what comes of it. */
    private static final int MOST_QUESTIONS = 20;

    private final Due due = new Due();
    private final List<Call> calls = new ArrayList<>();
    private final List<int[]> tuples = new ArrayList<>();
    private final List<List<Integer>> takers = new ArrayList<>();
    private final List<Integer> chosen = new ArrayList<>();
    private CallBoard board;
    private CallBoard told;
    private int toldCalls;
    private long seed;
    private int number;
    private int places;
    private int handlers;
    private boolean[][] dominates;

    public static void main(String[] args) {
        TupleTest test = new TupleTest();
        test.due.is("the words stand in the document", Document.says("Terms", "TAKES is said of TUPLES as of rows."), true);
        for (int number = 0; number < BOARDS; number++) {
            test.oneBoard(number);
        }
        test.due.end();
    }

    private int below(int bound) {
        seed = seed * 6364136223846793005L + 1442695040888963407L;
        return (int) ((seed >>> 33) % bound);
    }

    private void does(String text) {
        Call call = Call.read(text);
        calls.add(call);
        call.on(board);
    }

    private long ask(String text) {
        return Call.read(text).on(board);
    }

    private void is(String text, long want) {
        due.is("board " + number + ": " + text, ask(text), want);
    }

    private void oneBoard(int which) {
        number = which;
        seed = which * 104729L + 17;
        board = new CallBoard();
        calls.clear();
        makeTable();
        places = 1 + below(2);
        does("function(" + places + ")");
        handlers = 2 + below(4);
        for (int h = 0; h < handlers; h++) {
            makeHandler(h);
        }
        compareHandlers();
        listTuples();
        tellTuples();
        compareHole();
        compareDoubts();
    }

    private void makeTable() {
        for (int c = CLASSES; c < 12; c++) {
            does("flag(" + c + ")");
        }
        if (below(8) == 0) {
            does("flag(" + below(CLASSES) + ")");
        }
        for (int c = 1; c < CLASSES; c++) {
            does("parent(" + c + ", " + (below(c + 1) - 1) + ")");
            does("has(" + below(CLASSES) + ", " + (12 + below(2)) + ")");
        }
        does("close()");
    }

    private void makeHandler(int h) {
        does("handler(0, 0, " + Due.MIN + ", " + (below(6) == 0) + ")");
        for (int i = 0; i < places; i++) {
            does("place(" + h + ", " + i + ", " + code() + ")");
            if (below(3) > 0) {
                int one = end();
                int two = end();
                does("test(" + h + ", " + i + ", " + Math.min(one, two) + ", " + Math.max(one, two) + ")");
            }
        }
        does("lay(" + h + ")");
    }

    /** Asked once for each pair, so that no board is asked more often than one has to answer. */
    private void compareHandlers() {
        dominates = new boolean[handlers][handlers];
        for (int h = 0; h < handlers; h++) {
            for (int g = 0; g < handlers; g++) {
                dominates[h][g] = ask("dominates(" + h + ", " + g + ")") == 1;
            }
        }
    }

    private int code() {
        int code = below(CLASSES + 5);
        return code < CLASSES ? code : code < CLASSES + 2 ? 12 + code - CLASSES : -1;
    }

    private int end() {
        int[] ends = {Due.MIN, Due.MIN, Due.MAX, Due.MAX, Due.MIN + 1, Due.MAX - 1, -1, 0, 1, 2, 3, 100};
        return ends[below(ends.length)];
    }

    /** The weights at which what is so may change, and those right ahead of them. */
    private TreeSet<Integer> weightsAt(int place) {
        TreeSet<Integer> weights = new TreeSet<>();
        weights.add(Due.MIN);
        weights.add(Due.MAX);
        for (int h = 0; h < handlers; h++) {
            int low = (int) ask("about(" + h + ", " + (7 + place) + ")");
            int high = (int) ask("about(" + h + ", " + (9 + place) + ")");
            weights.add(low);
            weights.add(high);
            if (low > Due.MIN) {
                weights.add(low - 1);
            }
            if (high < Due.MAX) {
                weights.add(high + 1);
            }
        }
        return weights;
    }

    private List<int[]> cellsAt(int place) {
        List<int[]> cells = new ArrayList<>();
        if (place >= places) {
            cells.add(new int[] {0, 0});
            return cells;
        }
        TreeSet<Integer> weights = weightsAt(place);
        for (int c = 0; c < 12; c++) {
            if (!calls.contains(Call.read("flag(" + c + ")"))) {
                for (int weight : weights) {
                    cells.add(new int[] {c, weight});
                }
            }
        }
        return cells;
    }

    /** All of them, in the document's order, as it tells them: classes, then weights. */
    private void listTuples() {
        tuples.clear();
        List<int[]> seconds = cellsAt(1);
        for (int[] first : cellsAt(0)) {
            for (int[] second : seconds) {
                tuples.add(new int[] {first[0], second[0], first[1], second[1]});
            }
        }
    }

    private void tellTuples() {
        takers.clear();
        chosen.clear();
        toldCalls = Run.MOST_CALLS;
        for (int[] tuple : tuples) {
            if (toldCalls + MOST_QUESTIONS > Run.MOST_CALLS) {
                told = Run.playAll(calls);
                toldCalls = calls.size();
            }
            tellTuple(tuple);
        }
    }

    private long askTold(String text) {
        toldCalls++;
        return Call.read(text).on(told);
    }

    private void tellTuple(int[] tuple) {
        for (int i = 0; i < places; i++) {
            long s = askTold("sample(" + tuple[i] + ", " + tuple[2 + i] + ")");
            askTold("arg(" + i + ", " + s + ")");
        }
        List<Integer> found = new ArrayList<>();
        for (int h = (int) askTold("applicable(0, 0)"); h != -1; h = (int) askTold("applicable(0, " + found.size() + ")")) {
            found.add(h);
        }
        int most = (int) askTold("most(0)");
        takers.add(found);
        chosen.add(most);
        String row = "board " + number + ", classes and weights " + Arrays.toString(tuple) + ": ";
        // Only such weights are below the value that each handler has, so none else is barred.
        if ((long) tuple[2] + tuple[3] >= Due.MIN) {
            due.is(row + "call", askTold("call(0)"), found.isEmpty() ? 1 : most == -1 ? 2 : 0);
        }
        for (int h : found) {
            due.is(row + "explain(" + h + ") is 0", askTold("explain(" + h + ")") == 0, h == most);
        }
    }

    private void compareHole() {
        int first = chosen.indexOf(-1);
        is("covered(0)", first == -1 ? 1 : 0);
        for (int what = 0; what < 4; what++) {
            is("hole(0, " + what + ")", first == -1 ? Due.NO_PROOF : tuples.get(first)[what]);
        }
    }

    private void compareDoubts() {
        int k = 0;
        for (int g = 0; g < handlers; g++) {
            for (int h = g + 1; h < handlers; h++) {
                int first = firstDoubt(g, h);
                if (first != -1) {
                    is("doubt(0, " + k + ", 0)", g);
                    is("doubt(0, " + k + ", 1)", h);
                    for (int what = 0; what < 4; what++) {
                        is("doubt(0, " + k + ", " + (2 + what) + ")", tuples.get(first)[what]);
                    }
                    k++;
                }
            }
        }
        is("doubt(0, " + k + ", 0)", Due.NO_PROOF);
    }

    private int firstDoubt(int g, int h) {
        if (dominates[g][h] || dominates[h][g]) {
            return -1;
        }
        for (int t = 0; t < tuples.size(); t++) {
            List<Integer> found = takers.get(t);
            if (found.contains(g) && found.contains(h) && !isBeaten(found, g, h)) {
                return t;
            }
        }
        return -1;
    }

    private boolean isBeaten(List<Integer> found, int g, int h) {
        for (int other : found) {
            if (dominates[other][g] && dominates[other][h]) {
                return true;
            }
        }
        return false;
    }
}

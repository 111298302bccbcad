import java.util.ArrayList;
import java.util.List;
import java.util.TreeSet;

/** The document's words taken one by one, without regard to speed; it shares no thought with the program. */
final class Model {
    private static final int NUMBER = -2;
    private static final int STATE = -3;
    private static final int FULL = -4;
    private static final int LOOP = -5;
    private static final int ABSTRACT = -6;
    private static final long NO_PROOF = 1L << 40;

    private record Sample(int type, int weight) {
    }

    private record Key(List<Integer> classes, List<Long> pieces) {
    }

    private static final class Fun {
        int places;
        boolean frozen;
        int hits;
        final List<Key> remembered = new ArrayList<>();
    }

    private static final class Han {
        int number;
        int f;
        int action;
        int value;
        boolean around;
        int state;
        int[] code = {-1, -1};
        int[] low = {Integer.MIN_VALUE, Integer.MIN_VALUE};
        int[] high = {Integer.MAX_VALUE, Integer.MAX_VALUE};
    }

    /** What a call or a run comes to: kind is the answer of call(). */
    private record Outcome(int kind, long value, int failure) {
    }

    private final Integer[] parents = new Integer[12];
    private final boolean[][] direct = new boolean[16][16];
    private final boolean[] isAbstract = new boolean[12];
    private boolean closed;
    private final List<Sample> samples = new ArrayList<>();
    private final List<Fun> functions = new ArrayList<>();
    private final List<Han> handlers = new ArrayList<>();
    private final Integer[] told = new Integer[2];
    private final int[] counters = new int[8];
    private Outcome latest = new Outcome(0, 0, 0);
    private final List<Integer> steps = new ArrayList<>();
    private int deepest;
    private int where = -1;

    int parent(int c, int p) {
        if (c < 0 || c > 11 || p < -1 || p > 11) {
            return NUMBER;
        }
        if (closed) {
            return STATE;
        }
        parents[c] = p == -1 ? null : p;
        return 1;
    }

    private int add(int from, int to) {
        if (closed) {
            return STATE;
        }
        int answer = direct[from][to] ? 0 : 1;
        direct[from][to] = true;
        return answer;
    }

    int trait(int t, int u) {
        return t < 12 || t > 15 || u < 12 || u > 15 ? NUMBER : add(t, u);
    }

    int has(int c, int t) {
        return c < 0 || c > 11 || t < 12 || t > 15 ? NUMBER : add(c, t);
    }

    int flag(int c) {
        if (c < 0 || c > 11) {
            return NUMBER;
        }
        if (closed) {
            return STATE;
        }
        int answer = isAbstract[c] ? 0 : 1;
        isAbstract[c] = true;
        return answer;
    }

    private boolean comesTo(int from, int to, int left) {
        if (left == 0) {
            return false;
        }
        for (int next = 0; next < 16; next++) {
            boolean step = direct[from][next] || from < 12 && parents[from] != null && parents[from] == next;
            if (step && (next == to || comesTo(next, to, left - 1))) {
                return true;
            }
        }
        return false;
    }

    int close() {
        if (closed) {
            return STATE;
        }
        for (int c = 0; c < 12; c++) {
            Integer at = parents[c];
            for (int i = 0; i < 12 && at != null; i++) {
                if (at == c) {
                    return LOOP;
                }
                at = parents[at];
            }
        }
        for (int t = 12; t < 16; t++) {
            if (comesTo(t, t, 4)) {
                return LOOP;
            }
        }
        closed = true;
        return 1;
    }

    private boolean isBelow(int x, int y) {
        if (x == y) {
            return true;
        }
        if (x < 12 && parents[x] != null && isBelow(parents[x], y)) {
            return true;
        }
        for (int t = 12; t < 16; t++) {
            if (direct[x][t] && isBelow(t, y)) {
                return true;
            }
        }
        return false;
    }

    boolean below(int x, int y) {
        return closed && x >= 0 && x <= 15 && y >= 0 && y <= 15 && isBelow(x, y);
    }

    int sample(int c, int weight) {
        if (c < 0 || c > 11) {
            return NUMBER;
        }
        if (!closed) {
            return STATE;
        }
        if (isAbstract[c]) {
            return ABSTRACT;
        }
        if (samples.size() == 300) {
            return FULL;
        }
        samples.add(new Sample(c, weight));
        return samples.size() - 1;
    }

    int of(int sample, int what) {
        if (sample < 0 || sample >= samples.size() || what < 0 || what > 1) {
            return -1;
        }
        return what == 0 ? samples.get(sample).type() : samples.get(sample).weight();
    }

    int samples() {
        return samples.size();
    }

    int function(int places) {
        if (places != 1 && places != 2) {
            return NUMBER;
        }
        if (!closed) {
            return STATE;
        }
        if (functions.size() == 4) {
            return FULL;
        }
        Fun fun = new Fun();
        fun.places = places;
        functions.add(fun);
        return functions.size() - 1;
    }

    private boolean isFunction(int f) {
        return f >= 0 && f < functions.size();
    }

    private boolean isHandler(int h) {
        return h >= 0 && h < handlers.size();
    }

    private int placesOf(Han h) {
        return functions.get(h.f).places;
    }

    int handler(int f, int action, int value, boolean around) {
        if (!isFunction(f) || action < 0 || action > 7) {
            return NUMBER;
        }
        if (handlers.size() == 40) {
            return FULL;
        }
        Han h = new Han();
        h.number = handlers.size();
        h.f = f;
        h.action = action;
        h.value = value;
        h.around = around;
        handlers.add(h);
        return h.number;
    }

    int place(int h, int i, int code) {
        if (!isHandler(h) || i < 0 || i >= placesOf(handlers.get(h)) || code < -1 || code > 15) {
            return NUMBER;
        }
        if (handlers.get(h).state != 0) {
            return STATE;
        }
        handlers.get(h).code[i] = code;
        return 1;
    }

    int test(int h, int i, int low, int high) {
        if (!isHandler(h) || i < 0 || i >= placesOf(handlers.get(h)) || low > high) {
            return NUMBER;
        }
        if (handlers.get(h).state != 0) {
            return STATE;
        }
        handlers.get(h).low[i] = low;
        handlers.get(h).high[i] = high;
        return 1;
    }

    private List<Han> laid(int f) {
        List<Han> found = new ArrayList<>();
        for (Han h : handlers) {
            if (h.f == f && h.state == 1) {
                found.add(h);
            }
        }
        return found;
    }

    private boolean same(Han h, Han g, int i) {
        return h.code[i] == g.code[i] && h.low[i] == g.low[i] && h.high[i] == g.high[i];
    }

    private boolean narrower(Han h, Han g, int i) {
        boolean byCode = h.code[i] >= 0 && g.code[i] == -1
            || h.code[i] >= 0 && g.code[i] >= 0 && h.code[i] != g.code[i] && isBelow(h.code[i], g.code[i]);
        boolean within = h.low[i] >= g.low[i] && h.high[i] <= g.high[i];
        boolean sameRange = h.low[i] == g.low[i] && h.high[i] == g.high[i];
        return byCode || h.code[i] == g.code[i] && within && !sameRange;
    }

    private boolean moreSpecific(Han h, Han g) {
        if (h.f != g.f) {
            return false;
        }
        int narrow = 0;
        for (int i = 0; i < placesOf(h); i++) {
            if (!narrower(h, g, i) && !same(h, g, i)) {
                return false;
            }
            narrow += narrower(h, g, i) ? 1 : 0;
        }
        return narrow > 0;
    }

    int lay(int number) {
        if (!isHandler(number)) {
            return NUMBER;
        }
        Han h = handlers.get(number);
        if (h.state != 0 || functions.get(h.f).frozen) {
            return STATE;
        }
        for (Han g : laid(h.f)) {
            boolean all = g.around == h.around;
            for (int i = 0; i < placesOf(h); i++) {
                all &= same(h, g, i);
            }
            if (all) {
                return LOOP;
            }
        }
        if (laid(h.f).size() == 8) {
            return FULL;
        }
        h.state = 1;
        functions.get(h.f).remembered.clear();
        return 1;
    }

    int lift(int number) {
        if (!isHandler(number)) {
            return NUMBER;
        }
        Han h = handlers.get(number);
        if (h.state != 1 || functions.get(h.f).frozen) {
            return STATE;
        }
        h.state = 2;
        functions.get(h.f).remembered.clear();
        return 1;
    }

    int freeze(int f, boolean on) {
        if (!isFunction(f)) {
            return NUMBER;
        }
        int answer = functions.get(f).frozen == on ? 0 : 1;
        functions.get(f).frozen = on;
        return answer;
    }

    int about(int number, int what) {
        if (!isHandler(number) || what < 0 || what > 10) {
            return NUMBER;
        }
        Han h = handlers.get(number);
        boolean two = placesOf(h) == 2;
        return switch (what) {
            case 0 -> h.f;
            case 1 -> h.action;
            case 2 -> h.value;
            case 3 -> h.around ? 1 : 0;
            case 4 -> h.state;
            case 5 -> h.code[0];
            case 6 -> two ? h.code[1] : 0;
            case 7 -> h.low[0];
            case 8 -> two ? h.low[1] : 0;
            case 9 -> h.high[0];
            default -> two ? h.high[1] : 0;
        };
    }

    boolean dominates(int h, int g) {
        return isHandler(h) && isHandler(g) && moreSpecific(handlers.get(h), handlers.get(g));
    }

    private List<Han> ordered(int f) {
        List<Han> left = laid(f);
        List<Han> done = new ArrayList<>();
        while (!left.isEmpty()) {
            for (Han h : left) {
                if (left.stream().noneMatch(g -> moreSpecific(g, h))) {
                    done.add(h);
                    left.remove(h);
                    break;
                }
            }
        }
        return done;
    }

    int order(int f, int k) {
        return isFunction(f) ? numberIn(ordered(f), k) : -1;
    }

    private static int numberIn(List<Han> list, int k) {
        return k >= 0 && k < list.size() ? list.get(k).number : -1;
    }

    int arg(int i, int s) {
        if (i < 0 || i > 1 || s < 0 || s >= samples.size()) {
            return NUMBER;
        }
        told[i] = s;
        return 1;
    }

    private boolean isTold(int f) {
        return told[0] != null && (functions.get(f).places == 1 || told[1] != null);
    }

    private List<Sample> toldRow(int f) {
        List<Sample> row = new ArrayList<>();
        for (int i = 0; i < functions.get(f).places; i++) {
            row.add(samples.get(told[i]));
        }
        return row;
    }

    private boolean takesAt(Han h, List<Sample> row, int i) {
        Sample s = row.get(i);
        boolean code = h.code[i] == -1 || isBelow(s.type(), h.code[i]);
        return code && s.weight() >= h.low[i] && s.weight() <= h.high[i];
    }

    private boolean takes(Han h, List<Sample> row) {
        for (int i = 0; i < row.size(); i++) {
            if (!takesAt(h, row, i)) {
                return false;
            }
        }
        return true;
    }

    private List<Han> plainTakers(int f, List<Sample> row) {
        List<Han> found = new ArrayList<>();
        for (Han h : laid(f)) {
            if (!h.around && takes(h, row)) {
                found.add(h);
            }
        }
        return found;
    }

    private Han chosen(List<Han> among) {
        for (Han h : among) {
            if (among.stream().allMatch(g -> g == h || moreSpecific(h, g))) {
                return h;
            }
        }
        return null;
    }

    private static long together(List<Sample> row) {
        long sum = 0;
        for (Sample s : row) {
            sum += s.weight();
        }
        return sum;
    }

    private void look(int f, List<Sample> row) {
        List<Integer> classes = new ArrayList<>();
        List<Long> pieces = new ArrayList<>();
        for (int i = 0; i < row.size(); i++) {
            classes.add(row.get(i).type());
            TreeSet<Long> cuts = new TreeSet<>();
            for (Han h : laid(f)) {
                cuts.add((long) h.low[i]);
                cuts.add(h.high[i] + 1L);
            }
            Long piece = cuts.higher((long) row.get(i).weight());
            pieces.add(piece == null ? 1L << 31 : piece);
        }
        Fun fun = functions.get(f);
        Key key = new Key(classes, pieces);
        if (fun.remembered.remove(key)) {
            fun.hits++;
        } else if (fun.remembered.size() == 16) {
            fun.remembered.remove(0);
        }
        fun.remembered.add(key);
    }

    private Outcome callOf(int f, List<Sample> row, int depth) {
        if (depth == 13) {
            return new Outcome(4, 0, 0);
        }
        deepest = Math.max(deepest, depth);
        for (Han h : ordered(f)) {
            if (h.around && takes(h, row)) {
                steps.add(h.number);
                if (together(row) < h.value) {
                    return new Outcome(5, 0, 0);
                }
            }
        }
        look(f, row);
        List<Han> takers = plainTakers(f, row);
        if (takers.isEmpty()) {
            return new Outcome(1, 0, 0);
        }
        Han h = chosen(takers);
        return h == null ? new Outcome(2, 0, 0) : run(h, row, depth);
    }

    private static Outcome plus(Outcome o, long more) {
        return o.kind() == 0 ? new Outcome(0, o.value() + more, 0) : o;
    }

    private Outcome run(Han h, List<Sample> row, int depth) {
        steps.add(h.number);
        int v = h.value;
        switch (h.action) {
            case 0:
                return new Outcome(0, v, 0);
            case 1:
                return new Outcome(0, together(row) + v, 0);
            case 2:
                List<Han> less = plainTakers(h.f, row);
                less.removeIf(g -> !moreSpecific(h, g));
                if (less.isEmpty()) {
                    return new Outcome(0, v, 0);
                }
                Han next = chosen(less);
                return next == null ? new Outcome(2, 0, 0) : plus(run(next, row, depth), v);
            case 3:
                return new Outcome(3, 0, v);
            case 4:
                int k = ((v % 8) + 8) % 8;
                counters[k]++;
                return new Outcome(0, counters[k], 0);
            case 5:
                if (samples.size() == 300) {
                    return new Outcome(3, 0, -1);
                }
                samples.add(new Sample(row.get(0).type(), row.get(0).weight() + v));
                return new Outcome(0, samples.size() - 1, 0);
            default:
                int f = ((v % 4) + 4) % 4;
                if (!isFunction(f) || functions.get(f).places != row.size()) {
                    return new Outcome(3, 0, -2);
                }
                List<Sample> given = new ArrayList<>(row);
                if (h.action == 7) {
                    java.util.Collections.reverse(given);
                }
                return plus(callOf(f, given, depth + 1), 1);
        }
    }

    int call(int f) {
        if (!isFunction(f)) {
            return NUMBER;
        }
        if (!isTold(f)) {
            return STATE;
        }
        steps.clear();
        deepest = 0;
        latest = callOf(f, toldRow(f), 1);
        return latest.kind();
    }

    long value() {
        return latest.value();
    }

    int failure() {
        return latest.failure();
    }

    int step(int k) {
        return k >= 0 && k < steps.size() && k < 1000 ? steps.get(k) : -1;
    }

    int counter(int k) {
        return k >= 0 && k < 8 ? counters[k] : -1;
    }

    int applicable(int f, int k) {
        return isFunction(f) && isTold(f) ? numberIn(plainTakers(f, toldRow(f)), k) : -1;
    }

    int most(int f) {
        Han h = isFunction(f) && isTold(f) ? chosen(plainTakers(f, toldRow(f))) : null;
        return h == null ? -1 : h.number;
    }

    int explain(int number) {
        if (!isHandler(number)) {
            return NUMBER;
        }
        Han h = handlers.get(number);
        if (!isTold(h.f)) {
            return STATE;
        }
        where = -1;
        List<Sample> row = toldRow(h.f);
        List<Han> takers = plainTakers(h.f, row);
        if (h == chosen(takers)) {
            return 0;
        }
        if (h.state != 1) {
            return 1;
        }
        if (h.around) {
            return 2;
        }
        for (int i = 0; i < row.size(); i++) {
            if (!takesAt(h, row, i)) {
                where = i;
                return 3;
            }
        }
        for (Han g : takers) {
            if (moreSpecific(g, h)) {
                where = g.number;
                return 4;
            }
        }
        for (Han g : takers) {
            if (g != h && !moreSpecific(h, g) && where == -1) {
                where = g.number;
            }
        }
        return 5;
    }

    int where() {
        return where;
    }

    int count(int f, int what) {
        if (f < -1 || f >= functions.size() || what < 0 || what > 4) {
            return NUMBER;
        }
        if (f == -1) {
            int[] all = {functions.size(), handlers.size(), closed ? 1 : 0, steps.size(), deepest};
            return all[what];
        }
        Fun fun = functions.get(f);
        int[] own = {fun.places, laid(f).size(), fun.frozen ? 1 : 0, fun.hits, fun.remembered.size()};
        return own[what];
    }

    /** All weights at a place where anything may change, and some beside them. */
    private List<Integer> weightsAt(int f, int i) {
        TreeSet<Integer> weights = new TreeSet<>();
        weights.add(Integer.MIN_VALUE);
        weights.add(Integer.MAX_VALUE);
        for (Han h : laid(f)) {
            for (long edge : new long[] {h.low[i] - 1L, h.low[i], h.high[i], h.high[i] + 1L}) {
                if (edge == (int) edge) {
                    weights.add((int) edge);
                }
            }
        }
        return new ArrayList<>(weights);
    }

    private interface Wanted {
        boolean is(List<Sample> tuple);
    }

    private List<Sample> firstTuple(int f, List<Sample> begun, Wanted wanted) {
        if (begun.size() == functions.get(f).places) {
            return wanted.is(begun) ? begun : null;
        }
        for (int c = 0; c < 12; c++) {
            if (!isAbstract[c]) {
                for (int weight : weightsAt(f, begun.size())) {
                    List<Sample> longer = new ArrayList<>(begun);
                    longer.add(new Sample(c, weight));
                    List<Sample> found = firstTuple(f, longer, wanted);
                    if (found != null) {
                        return found;
                    }
                }
            }
        }
        return null;
    }

    private List<Sample> firstHole(int f) {
        return firstTuple(f, new ArrayList<>(), t -> chosen(plainTakers(f, t)) == null);
    }

    int covered(int f) {
        return !isFunction(f) ? NUMBER : firstHole(f) == null ? 1 : 0;
    }

    private static long part(List<Sample> tuple, int what) {
        if (what % 2 >= tuple.size()) {
            return 0;
        }
        return what < 2 ? tuple.get(what).type() : tuple.get(what - 2).weight();
    }

    long hole(int f, int what) {
        List<Sample> tuple = isFunction(f) && what >= 0 && what <= 3 ? firstHole(f) : null;
        return tuple == null ? NO_PROOF : part(tuple, what);
    }

    private List<Sample> firstDoubt(int f, Han g, Han h) {
        if (g.around || h.around || moreSpecific(g, h) || moreSpecific(h, g)) {
            return null;
        }
        return firstTuple(f, new ArrayList<>(), t -> takes(g, t) && takes(h, t)
            && plainTakers(f, t).stream().noneMatch(m -> moreSpecific(m, g) && moreSpecific(m, h)));
    }

    long doubt(int f, int k, int what) {
        if (!isFunction(f) || k < 0 || what < 0 || what > 5) {
            return NO_PROOF;
        }
        int before = 0;
        for (Han g : laid(f)) {
            for (Han h : laid(f)) {
                List<Sample> tuple = g.number < h.number ? firstDoubt(f, g, h) : null;
                if (tuple != null && before++ == k) {
                    return what == 0 ? g.number : what == 1 ? h.number : part(tuple, what - 2);
                }
            }
        }
        return NO_PROOF;
    }
}

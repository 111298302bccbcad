import java.util.Arrays;

/** Chooses handlers for calls by how specific they are, and proves them free of gaps and doubts. */
public final class CallBoard {
    public static final int NUMBER = -2;
    public static final int STATE = -3;
    public static final int FULL = -4;
    public static final int LOOP = -5;
    public static final int ABSTRACT = -6;

    private static final int CLASSES = 12;
    private static final int CODES = 16;
    private static final int ANY = -1;
    private static final int NO_PARENT = -1;
    private static final int NONE_SUCH = -1;
    private static final int ALL = -1;
    private static final int MOST_PLACES = 2;
    private static final int MOST_SAMPLES = 300;
    private static final int MOST_FUNCTIONS = 4;
    private static final int MOST_HANDLERS = 40;
    private static final int MOST_LAID = 8;
    private static final int MOST_WITHIN = 12;
    private static final int MOST_REMEMBERED = 16;
    private static final int STEPS_KEPT = 1000;
    private static final int COUNTERS = 8;
    // The least int begins a piece, and each laid handler's low and the weight behind its high may.
    private static final int MOST_STARTS = 1 + 2 * MOST_LAID;
    private static final int MOST_CELLS = CLASSES * MOST_STARTS;
    private static final long BEHIND_ALL_WEIGHTS = 1L << 31;
    private static final long NO_PROOF = 1L << 40;

    private static final int MAKING = 0;
    private static final int LAID = 1;
    private static final int LIFTED = 2;

    private static final int GIVE = 0;
    private static final int WEIGH = 1;
    private static final int PASS_ON = 2;
    private static final int FAIL = 3;
    private static final int COUNT_UP = 4;
    private static final int BRING_SAMPLE = 5;
    private static final int CALL_SAME = 6;
    private static final int CALL_TURNED = 7;

    private static final int HAS_VALUE = 0;
    private static final int NONE = 1;
    private static final int DOUBT = 2;
    private static final int FAILED = 3;
    private static final int DEEP = 4;
    private static final int BARRED = 5;
    private static final int NO_MORE_SAMPLES = -1;
    private static final int NO_SUCH_CALL = -2;

    private final Table table = new Table();
    private final Stock stock = new Stock();
    private final Function[] functions = new Function[MOST_FUNCTIONS];
    private final Handler[] handlers = new Handler[MOST_HANDLERS];
    private final int[] told = {NONE_SUCH, NONE_SUCH};
    private final int[] counters = new int[COUNTERS];
    private final Row row = new Row();
    private final Latest latest = new Latest();
    private final Proof proof = new Proof();
    private int functionCount = 0;
    private int handlerCount = 0;
    private int explained = NONE_SUCH;

    public CallBoard() {
    }

    // ---- the table

    public int parent(int c, int p) {
        if (!isClass(c) || p != NO_PARENT && !isClass(p)) {
            return NUMBER;
        }
        if (table.closed) {
            return STATE;
        }
        table.parents[c] = p;
        return 1;
    }

    public int trait(int t, int u) {
        if (!isTrait(t) || !isTrait(u)) {
            return NUMBER;
        }
        return table.closed ? STATE : table.addTrait(t, u);
    }

    public int has(int c, int t) {
        if (!isClass(c) || !isTrait(t)) {
            return NUMBER;
        }
        return table.closed ? STATE : table.addTrait(c, t);
    }

    public int flag(int c) {
        if (!isClass(c)) {
            return NUMBER;
        }
        if (table.closed) {
            return STATE;
        }
        if (table.isAbstract(c)) {
            return 0;
        }
        table.abstracts |= 1 << c;
        return 1;
    }

    public int close() {
        if (table.closed) {
            return STATE;
        }
        table.findReach();
        if (table.goesRound()) {
            return LOOP;
        }
        table.closed = true;
        return 1;
    }

    public boolean below(int x, int y) {
        return table.closed && isCode(x) && isCode(y) && table.isBelow(x, y);
    }

    // ---- samples

    public int sample(int c, int weight) {
        if (!isClass(c)) {
            return NUMBER;
        }
        if (!table.closed) {
            return STATE;
        }
        if (table.isAbstract(c)) {
            return ABSTRACT;
        }
        int number = stock.bring(c, weight);
        return number == NONE_SUCH ? FULL : number;
    }

    public int of(int sample, int what) {
        if (!stock.holds(sample)) {
            return NONE_SUCH;
        }
        switch (what) {
            case 0:
                return stock.classes[sample];
            case 1:
                return stock.weights[sample];
            default:
                return NONE_SUCH;
        }
    }

    public int samples() {
        return stock.size;
    }

    // ---- functions and handlers

    public int function(int places) {
        if (places < 1 || places > MOST_PLACES) {
            return NUMBER;
        }
        if (!table.closed) {
            return STATE;
        }
        if (functionCount >= MOST_FUNCTIONS) {
            return FULL;
        }
        functions[functionCount] = new Function(table, functionCount, places);
        functionCount++;
        return functionCount - 1;
    }

    public int handler(int f, int action, int value, boolean around) {
        Function owner = functionAt(f);
        if (owner == null || action < GIVE || action > CALL_TURNED) {
            return NUMBER;
        }
        if (handlerCount >= MOST_HANDLERS) {
            return FULL;
        }
        handlers[handlerCount] = new Handler(owner, handlerCount, action, value, around);
        handlerCount++;
        return handlerCount - 1;
    }

    public int place(int h, int i, int code) {
        Handler found = handlerAt(h);
        if (found == null || !found.owner.hasPlace(i) || code != ANY && !isCode(code)) {
            return NUMBER;
        }
        if (found.state != MAKING) {
            return STATE;
        }
        found.codes[i] = code;
        return 1;
    }

    public int test(int h, int i, int low, int high) {
        Handler found = handlerAt(h);
        if (found == null || !found.owner.hasPlace(i) || low > high) {
            return NUMBER;
        }
        if (found.state != MAKING) {
            return STATE;
        }
        found.lows[i] = low;
        found.highs[i] = high;
        return 1;
    }

    public int lay(int h) {
        Handler found = handlerAt(h);
        if (found == null) {
            return NUMBER;
        }
        Function owner = found.owner;
        if (found.state != MAKING || owner.frozen) {
            return STATE;
        }
        if (owner.hasLaidSame(found)) {
            return LOOP;
        }
        if (!owner.putLaid(found)) {
            return FULL;
        }
        found.state = LAID;
        return 1;
    }

    public int lift(int h) {
        Handler found = handlerAt(h);
        if (found == null) {
            return NUMBER;
        }
        if (found.state != LAID || found.owner.frozen) {
            return STATE;
        }
        found.state = LIFTED;
        found.owner.dropLaid(found);
        return 1;
    }

    public int freeze(int f, boolean on) {
        Function found = functionAt(f);
        if (found == null) {
            return NUMBER;
        }
        if (found.frozen == on) {
            return 0;
        }
        found.frozen = on;
        return 1;
    }

    public int about(int h, int what) {
        Handler found = handlerAt(h);
        if (found == null) {
            return NUMBER;
        }
        switch (what) {
            case 0:
                return found.owner.number;
            case 1:
                return found.action;
            case 2:
                return found.value;
            case 3:
                return found.around ? 1 : 0;
            case 4:
                return found.state;
            case 5:
            case 6:
                return elementOrZero(found.codes, what - 5);
            case 7:
            case 8:
                return elementOrZero(found.lows, what - 7);
            case 9:
            case 10:
                return elementOrZero(found.highs, what - 9);
            default:
                return NUMBER;
        }
    }

    public boolean dominates(int h, int g) {
        Handler one = handlerAt(h);
        Handler other = handlerAt(g);
        return one != null && other != null
            && one.owner.number == other.owner.number && one.isMoreSpecific(other);
    }

    public int order(int f, int k) {
        Function found = functionAt(f);
        if (found == null || k < 0 || k >= found.laidCount) {
            return NONE_SUCH;
        }
        return found.numberAt(found.ordered[k]);
    }

    // ---- calls

    public int arg(int i, int s) {
        if (i < 0 || i >= MOST_PLACES || !stock.holds(s)) {
            return NUMBER;
        }
        told[i] = s;
        return 1;
    }

    public int call(int f) {
        Function first = functionAt(f);
        if (first == null) {
            return NUMBER;
        }
        if (!readToldRow(first)) {
            return STATE;
        }
        latest.begin();
        Function next = first;
        // Whatever follows a call within another one only adds to its value, so none need stay open.
        for (int within = 1; next != null && within <= MOST_WITHIN; within++) {
            latest.deepest = within;
            next = carryOut(next);
        }
        if (next != null) {
            latest.outcome = DEEP;
        }
        return latest.outcome;
    }

    public long value() {
        return latest.outcome == HAS_VALUE ? latest.sum : 0;
    }

    public int failure() {
        return latest.outcome == FAILED ? latest.failed : 0;
    }

    public int step(int k) {
        if (k < 0 || k >= latest.stepCount || k >= STEPS_KEPT) {
            return NONE_SUCH;
        }
        return latest.steps[k];
    }

    public int counter(int k) {
        return k < 0 || k >= COUNTERS ? NONE_SUCH : counters[k];
    }

    public int applicable(int f, int k) {
        Function found = functionAt(f);
        if (found == null || !readToldRow(found)) {
            return NONE_SUCH;
        }
        return found.numberAt(memberAt(found.plainTakersOf(row), k));
    }

    public int most(int f) {
        Function found = functionAt(f);
        if (found == null || !readToldRow(found)) {
            return NONE_SUCH;
        }
        return found.numberAt(found.chosenOf(found.plainTakersOf(row)));
    }

    public int explain(int h) {
        Handler found = handlerAt(h);
        if (found == null) {
            return NUMBER;
        }
        if (!readToldRow(found.owner)) {
            return STATE;
        }
        explained = NONE_SUCH;
        if (found.state != LAID) {
            return 1;
        }
        if (found.around) {
            return 2;
        }
        int refusing = found.firstRefusingPlace(row);
        if (refusing != NONE_SUCH) {
            explained = refusing;
            return 3;
        }
        return explainAmongTakers(found);
    }

    public int where() {
        return explained;
    }

    public int count(int f, int what) {
        if (f == ALL) {
            return countOfAll(what);
        }
        Function found = functionAt(f);
        if (found == null) {
            return NUMBER;
        }
        switch (what) {
            case 0:
                return found.places;
            case 1:
                return found.laidCount;
            case 2:
                return found.frozen ? 1 : 0;
            case 3:
                return found.memory.hits;
            case 4:
                return found.memory.size;
            default:
                return NUMBER;
        }
    }

    // ---- proofs

    public int covered(int f) {
        Function found = functionAt(f);
        if (found == null) {
            return NUMBER;
        }
        return proof.findHole(found) ? 0 : 1;
    }

    public long hole(int f, int what) {
        Function found = functionAt(f);
        if (found == null || what < 0 || what > 3 || !proof.findHole(found)) {
            return NO_PROOF;
        }
        return proof.partOfTuple(what);
    }

    public long doubt(int f, int k, int what) {
        Function found = functionAt(f);
        if (found == null || k < 0 || what < 0 || what > 5 || !proof.findDoubt(found, k)) {
            return NO_PROOF;
        }
        switch (what) {
            case 0:
                return found.numberAt(proof.lesser);
            case 1:
                return found.numberAt(proof.greater);
            default:
                return proof.partOfTuple(what - 2);
        }
    }

    // ---- what the calls above share

    private static boolean isClass(int code) {
        return code >= 0 && code < CLASSES;
    }

    private static boolean isTrait(int code) {
        return code >= CLASSES && code < CODES;
    }

    private static boolean isCode(int code) {
        return code >= 0 && code < CODES;
    }

    private static int elementOrZero(int[] elements, int i) {
        return i >= 0 && i < elements.length ? elements[i] : 0;
    }

    /** The k-th (from 0 on) of the laid handlers in a set of bits, as its index. */
    private static int memberAt(int set, int k) {
        int before = 0;
        for (int i = 0; i < MOST_LAID; i++) {
            if ((set & 1 << i) != 0) {
                if (before == k) {
                    return i;
                }
                before++;
            }
        }
        return NONE_SUCH;
    }

    private Function functionAt(int f) {
        return f >= 0 && f < functionCount ? functions[f] : null;
    }

    private Handler handlerAt(int h) {
        return h >= 0 && h < handlerCount ? handlers[h] : null;
    }

    /** Sets the row to the told samples; false if one is missing. */
    private boolean readToldRow(Function f) {
        for (int i = 0; i < f.places; i++) {
            int s = told[i];
            if (!stock.holds(s)) {
                return false;
            }
            row.classes[i] = stock.classes[s];
            row.weights[i] = stock.weights[s];
        }
        row.places = f.places;
        return true;
    }

    private int countOfAll(int what) {
        switch (what) {
            case 0:
                return functionCount;
            case 1:
                return handlerCount;
            case 2:
                return table.closed ? 1 : 0;
            case 3:
                return latest.stepCount;
            case 4:
                return latest.deepest;
            default:
                return NUMBER;
        }
    }

    private int explainAmongTakers(Handler h) {
        Function f = h.owner;
        int own = f.indexOf(h);
        int takers = f.plainTakersOf(row);
        int beating = takers & f.beatersOf(own);
        if (beating != 0) {
            explained = f.numberAt(memberAt(beating, 0));
            return 4;
        }
        int unbeaten = takers & ~(1 << own) & ~f.beatenBy(own);
        if (unbeaten != 0) {
            explained = f.numberAt(memberAt(unbeaten, 0));
            return 5;
        }
        return 0;
    }

    /** One call of a function with the row; answers the function that is called within it, or null. */
    private Function carryOut(Function f) {
        if (isBarred(f)) {
            latest.outcome = BARRED;
            return null;
        }
        f.lookForRow(row);
        int takers = f.plainTakersOf(row);
        if (takers == 0) {
            latest.outcome = NONE;
            return null;
        }
        return runChosen(f, takers);
    }

    private boolean isBarred(Function f) {
        long weight = row.weightTogether();
        int takers = f.takersOf(row);
        for (int k = 0; k < f.laidCount; k++) {
            Handler h = f.laidAt(f.ordered[k]);
            if (h != null && h.around && (takers & 1 << f.ordered[k]) != 0) {
                latest.addStep(h.number);
                if (weight < h.value) {
                    return true;
                }
            }
        }
        return false;
    }

    private Function runChosen(Function f, int takers) {
        int among = takers;
        // A handler passes on to less specific ones alone, so none is run twice.
        for (int run = 0; run < MOST_LAID; run++) {
            int index = f.chosenOf(among);
            Handler h = f.laidAt(index);
            if (h == null) {
                latest.outcome = DOUBT;
                return null;
            }
            latest.addStep(h.number);
            if (h.action != PASS_ON) {
                return act(h);
            }
            latest.sum += h.value;
            among = takers & f.beatenBy(index);
            if (among == 0) {
                break;
            }
        }
        latest.outcome = HAS_VALUE;
        return null;
    }

    private Function act(Handler h) {
        switch (h.action) {
            case GIVE:
                latest.endWithValue(h.value);
                return null;
            case WEIGH:
                latest.endWithValue(row.weightTogether() + h.value);
                return null;
            case FAIL:
                latest.endWithFailure(h.value);
                return null;
            case COUNT_UP:
                latest.endWithValue(countUp(Math.floorMod(h.value, COUNTERS)));
                return null;
            case BRING_SAMPLE:
                bringSample(h.value);
                return null;
            case CALL_SAME:
                return calledWithin(h);
            default:
                row.turnRound();
                return calledWithin(h);
        }
    }

    private int countUp(int k) {
        counters[k]++;
        return counters[k];
    }

    private void bringSample(int added) {
        int number = stock.bring(row.classes[0], row.weights[0] + added);
        if (number == NONE_SUCH) {
            latest.endWithFailure(NO_MORE_SAMPLES);
        } else {
            latest.endWithValue(number);
        }
    }

    private Function calledWithin(Handler h) {
        Function f = functionAt(Math.floorMod(h.value, MOST_FUNCTIONS));
        if (f == null || f.places != row.places) {
            latest.endWithFailure(NO_SUCH_CALL);
            return null;
        }
        latest.sum++;
        return f;
    }

    /** Classes and traits, and once closed what is below what. */
    private static final class Table {
        final int[] parents = new int[CLASSES];
        private final int[] traits = new int[CODES];
        private final int[] reach = new int[CODES];
        int abstracts = 0;
        boolean closed = false;

        Table() {
            Arrays.fill(parents, NO_PARENT);
        }

        int addTrait(int code, int t) {
            int bit = 1 << t;
            if ((traits[code] & bit) != 0) {
                return 0;
            }
            traits[code] |= bit;
            return 1;
        }

        boolean isAbstract(int c) {
            return (abstracts & 1 << c) != 0;
        }

        /** Finds for each code the set of those that one comes to from it in one step or more. */
        void findReach() {
            for (int x = 0; x < CODES; x++) {
                reach[x] = traits[x];
                if (x < CLASSES && parents[x] != NO_PARENT) {
                    reach[x] |= 1 << parents[x];
                }
            }
            for (int through = 0; through < CODES; through++) {
                for (int x = 0; x < CODES; x++) {
                    if ((reach[x] & 1 << through) != 0) {
                        reach[x] |= reach[through];
                    }
                }
            }
        }

        boolean goesRound() {
            for (int x = 0; x < CODES; x++) {
                if ((reach[x] & 1 << x) != 0) {
                    return true;
                }
            }
            return false;
        }

        boolean isBelow(int x, int y) {
            return x == y || (reach[x] & 1 << y) != 0;
        }
    }

    /** All samples. */
    private static final class Stock {
        final int[] classes = new int[MOST_SAMPLES];
        final int[] weights = new int[MOST_SAMPLES];
        int size = 0;

        boolean holds(int sample) {
            return sample >= 0 && sample < size;
        }

        /** The number of the new sample, or -1 if there is no room for one. */
        int bring(int c, int weight) {
            if (size >= MOST_SAMPLES) {
                return NONE_SUCH;
            }
            classes[size] = c;
            weights[size] = weight;
            size++;
            return size - 1;
        }
    }

    /** The classes and weights that a call has at its places. */
    private static final class Row {
        final int[] classes = new int[MOST_PLACES];
        final int[] weights = new int[MOST_PLACES];
        int places = 1;

        long weightTogether() {
            long together = 0;
            for (int i = 0; i < places; i++) {
                together += weights[i];
            }
            return together;
        }

        void turnRound() {
            if (places < MOST_PLACES) {
                return;
            }
            int c = classes[0];
            classes[0] = classes[1];
            classes[1] = c;
            int weight = weights[0];
            weights[0] = weights[1];
            weights[1] = weight;
        }
    }

    private static final class Handler {
        final Function owner;
        final int number;
        final int action;
        final int value;
        final boolean around;
        final int[] codes;
        final int[] lows;
        final int[] highs;
        int state = MAKING;

        Handler(Function owner, int number, int action, int value, boolean around) {
            this.owner = owner;
            this.number = number;
            this.action = action;
            this.value = value;
            this.around = around;
            codes = new int[owner.places];
            lows = new int[owner.places];
            highs = new int[owner.places];
            Arrays.fill(codes, ANY);
            Arrays.fill(lows, Integer.MIN_VALUE);
            Arrays.fill(highs, Integer.MAX_VALUE);
        }

        boolean takesClass(int i, int c) {
            return codes[i] == ANY || owner.table.isBelow(c, codes[i]);
        }

        boolean takesWeight(int i, int weight) {
            return lows[i] <= weight && weight <= highs[i];
        }

        /** The first place at which it doesn't take the row, or -1 if it takes it. */
        int firstRefusingPlace(Row row) {
            for (int i = 0; i < owner.places; i++) {
                if (!takesClass(i, row.classes[i]) || !takesWeight(i, row.weights[i])) {
                    return i;
                }
            }
            return NONE_SUCH;
        }

        private boolean isSameAt(int i, Handler other) {
            return codes[i] == other.codes[i]
                && lows[i] == other.lows[i] && highs[i] == other.highs[i];
        }

        private boolean isNarrowerAt(int i, Handler other) {
            if (codes[i] != other.codes[i]) {
                return codes[i] != ANY
                    && (other.codes[i] == ANY || owner.table.isBelow(codes[i], other.codes[i]));
            }
            return other.lows[i] <= lows[i] && highs[i] <= other.highs[i] && !isSameAt(i, other);
        }

        /** To be asked only about a handler of the same function. */
        boolean isSameAs(Handler other) {
            for (int i = 0; i < owner.places; i++) {
                if (!isSameAt(i, other)) {
                    return false;
                }
            }
            return true;
        }

        /** To be asked only about a handler of the same function. */
        boolean isMoreSpecific(Handler other) {
            boolean narrower = false;
            for (int i = 0; i < owner.places; i++) {
                if (isNarrowerAt(i, other)) {
                    narrower = true;
                } else if (!isSameAt(i, other)) {
                    return false;
                }
            }
            return narrower;
        }
    }

    /** A function with its laid handlers, by numbers; sets of these are bits at their indices. */
    private static final class Function {
        final Table table;
        final int number;
        final int places;
        final Memory memory = new Memory();
        final int[] ordered = new int[MOST_LAID];
        private final Handler[] laid = new Handler[MOST_LAID];
        private final int[] beaten = new int[MOST_LAID];
        int laidCount = 0;
        int plain = 0;
        boolean frozen = false;

        Function(Table table, int number, int places) {
            this.table = table;
            this.number = number;
            this.places = places;
        }

        boolean hasPlace(int i) {
            return i >= 0 && i < places;
        }

        Handler laidAt(int index) {
            return index >= 0 && index < laidCount ? laid[index] : null;
        }

        int numberAt(int index) {
            Handler h = laidAt(index);
            return h == null ? NONE_SUCH : h.number;
        }

        int indexOf(Handler h) {
            for (int i = 0; i < laidCount; i++) {
                if (laid[i].number == h.number) {
                    return i;
                }
            }
            return NONE_SUCH;
        }

        boolean hasLaidSame(Handler h) {
            for (int i = 0; i < laidCount; i++) {
                if (laid[i].around == h.around && laid[i].isSameAs(h)) {
                    return true;
                }
            }
            return false;
        }

        /** False if as many as may be are laid. */
        boolean putLaid(Handler h) {
            if (laidCount >= MOST_LAID) {
                return false;
            }
            int at = laidCount;
            while (at > 0 && laid[at - 1].number > h.number) {
                laid[at] = laid[at - 1];
                at--;
            }
            laid[at] = h;
            laidCount++;
            compareLaid();
            return true;
        }

        void dropLaid(Handler h) {
            int kept = 0;
            for (int i = 0; i < laidCount; i++) {
                if (laid[i].number != h.number) {
                    laid[kept] = laid[i];
                    kept++;
                }
            }
            laidCount = kept;
            compareLaid();
        }

        private void compareLaid() {
            plain = 0;
            for (int i = 0; i < laidCount; i++) {
                beaten[i] = 0;
                if (!laid[i].around) {
                    plain |= 1 << i;
                }
                for (int other = 0; other < laidCount; other++) {
                    if (laid[i].isMoreSpecific(laid[other])) {
                        beaten[i] |= 1 << other;
                    }
                }
            }
            putInOrder();
            memory.forget();
        }

        private void putInOrder() {
            int left = (1 << laidCount) - 1;
            for (int k = 0; k < laidCount; k++) {
                int index = memberAt(left & ~beatenByAny(left), 0);
                ordered[k] = index;
                left &= ~(1 << index);
            }
        }

        private int beatenByAny(int set) {
            int all = 0;
            for (int i = 0; i < laidCount; i++) {
                if ((set & 1 << i) != 0) {
                    all |= beaten[i];
                }
            }
            return all;
        }

        /** The set of laid ones than which that at the index is more specific. */
        int beatenBy(int index) {
            return index >= 0 && index < laidCount ? beaten[index] : 0;
        }

        /** The set of laid ones that are more specific than that at the index. */
        int beatersOf(int index) {
            int beaters = 0;
            for (int i = 0; i < laidCount; i++) {
                if ((beaten[i] & 1 << index) != 0) {
                    beaters |= 1 << i;
                }
            }
            return beaters;
        }

        int takersOf(Row row) {
            int takers = (1 << laidCount) - 1;
            for (int i = 0; i < places; i++) {
                takers &= takersOfClass(i, row.classes[i]) & takersOfWeight(i, row.weights[i]);
            }
            return takers;
        }

        int plainTakersOf(Row row) {
            return takersOf(row) & plain;
        }

        int takersOfClass(int place, int c) {
            int takers = 0;
            for (int i = 0; i < laidCount; i++) {
                if (laid[i].takesClass(place, c)) {
                    takers |= 1 << i;
                }
            }
            return takers;
        }

        int takersOfWeight(int place, int weight) {
            int takers = 0;
            for (int i = 0; i < laidCount; i++) {
                if (laid[i].takesWeight(place, weight)) {
                    takers |= 1 << i;
                }
            }
            return takers;
        }

        /** The index of the chosen one of a set, or -1. */
        int chosenOf(int set) {
            for (int i = 0; i < laidCount; i++) {
                int own = 1 << i;
                if ((set & own) != 0 && (set & ~own & ~beaten[i]) == 0) {
                    return i;
                }
            }
            return NONE_SUCH;
        }

        void lookForRow(Row row) {
            int classes = row.classes[0];
            long piece = pieceOf(0, row.weights[0]);
            if (places < MOST_PLACES) {
                memory.look(classes, piece, 0);
            } else {
                memory.look(classes * CLASSES + row.classes[1], piece, pieceOf(1, row.weights[1]));
            }
        }

        private long pieceOf(int place, int weight) {
            long piece = BEHIND_ALL_WEIGHTS;
            for (int i = 0; i < laidCount; i++) {
                long low = laid[i].lows[place];
                long behind = laid[i].highs[place] + 1L;
                if (low > weight) {
                    piece = Math.min(piece, low);
                }
                if (behind > weight) {
                    piece = Math.min(piece, behind);
                }
            }
            return piece;
        }
    }

    /** The rows of classes and pieces that a function remembers; the classes of a row are one number. */
    private static final class Memory {
        private final int[] classes = new int[MOST_REMEMBERED];
        private final long[] firstPieces = new long[MOST_REMEMBERED];
        private final long[] secondPieces = new long[MOST_REMEMBERED];
        private final int[] looked = new int[MOST_REMEMBERED];
        private int looks = 0;
        int size = 0;
        int hits = 0;

        void forget() {
            size = 0;
        }

        void look(int rowClasses, long firstPiece, long secondPiece) {
            int at = find(rowClasses, firstPiece, secondPiece);
            if (at != NONE_SUCH) {
                hits++;
            } else {
                at = makeRoom();
                classes[at] = rowClasses;
                firstPieces[at] = firstPiece;
                secondPieces[at] = secondPiece;
            }
            looks++;
            looked[at] = looks;
        }

        private int find(int rowClasses, long firstPiece, long secondPiece) {
            for (int i = 0; i < size; i++) {
                if (classes[i] == rowClasses
                    && firstPieces[i] == firstPiece && secondPieces[i] == secondPiece) {
                    return i;
                }
            }
            return NONE_SUCH;
        }

        private int makeRoom() {
            if (size < MOST_REMEMBERED) {
                size++;
                return size - 1;
            }
            int oldest = 0;
            for (int i = 1; i < MOST_REMEMBERED; i++) {
                if (looked[i] < looked[oldest]) {
                    oldest = i;
                }
            }
            return oldest;
        }
    }

    /** What came of the latest call that wasn't refused. */
    private static final class Latest {
        final int[] steps = new int[STEPS_KEPT];
        int stepCount = 0;
        int deepest = 0;
        int outcome = HAS_VALUE;
        int failed = 0;
        long sum = 0;

        void begin() {
            stepCount = 0;
            deepest = 0;
            outcome = HAS_VALUE;
            failed = 0;
            sum = 0;
        }

        void addStep(int h) {
            if (stepCount < STEPS_KEPT) {
                steps[stepCount] = h;
            }
            stepCount++;
        }

        void endWithValue(long innermost) {
            outcome = HAS_VALUE;
            sum += innermost;
        }

        void endWithFailure(int failure) {
            outcome = FAILED;
            failed = failure;
        }
    }

    /** The first class and weight at a place for each set of handlers not around that take one there. */
    private static final class Cells {
        final int[] classes = new int[MOST_CELLS];
        final int[] weights = new int[MOST_CELLS];
        final int[] takers = new int[MOST_CELLS];
        int size = 0;
        private final int[] starts = new int[MOST_STARTS];
        private final int[] startTakers = new int[MOST_STARTS];
        private int startCount = 0;

        void fill(Function f, int place) {
            size = 0;
            if (!f.hasPlace(place)) {
                // Zeros are told of a place that isn't there, and each handler takes them.
                addNew(0, 0, f.plain);
                return;
            }
            findStarts(f, place);
            for (int c = 0; c < CLASSES; c++) {
                if (!f.table.isAbstract(c)) {
                    addClass(c, f.takersOfClass(place, c) & f.plain);
                }
            }
        }

        private void addClass(int c, int classTakers) {
            for (int i = 0; i < startCount; i++) {
                addNew(c, starts[i], classTakers & startTakers[i]);
            }
        }

        private void addNew(int c, int weight, int set) {
            for (int i = 0; i < size; i++) {
                if (takers[i] == set) {
                    return;
                }
            }
            if (size < MOST_CELLS) {
                classes[size] = c;
                weights[size] = weight;
                takers[size] = set;
                size++;
            }
        }

        /** Finds the weights, in order, at which other handlers than before may take. */
        private void findStarts(Function f, int place) {
            startCount = 0;
            addStart(Integer.MIN_VALUE);
            for (int i = 0; i < f.laidCount; i++) {
                Handler h = f.laidAt(i);
                if (h != null && !h.around) {
                    addStart(h.lows[place]);
                    if (h.highs[place] < Integer.MAX_VALUE) {
                        addStart(h.highs[place] + 1);
                    }
                }
            }
            for (int i = 0; i < startCount; i++) {
                startTakers[i] = f.takersOfWeight(place, starts[i]);
            }
        }

        private void addStart(int weight) {
            int at = startCount;
            while (at > 0 && starts[at - 1] > weight) {
                at--;
            }
            if (at > 0 && starts[at - 1] == weight || startCount >= MOST_STARTS) {
                return;
            }
            for (int i = startCount; i > at; i--) {
                starts[i] = starts[i - 1];
            }
            starts[at] = weight;
            startCount++;
        }
    }

    /** Finds first tuples: of all that the same handlers take, only the first one is looked at. */
    private static final class Proof {
        private final Cells first = new Cells();
        private final Cells second = new Cells();
        private int atFirst = 0;
        private int atSecond = 0;
        int lesser = 0;
        int greater = 0;

        private void fillCells(Function f) {
            first.fill(f, 0);
            second.fill(f, 1);
        }

        boolean findHole(Function f) {
            fillCells(f);
            for (int a = 0; a < first.size; a++) {
                for (int b = 0; b < second.size; b++) {
                    if (f.chosenOf(first.takers[a] & second.takers[b]) == NONE_SUCH) {
                        return foundAt(a, b);
                    }
                }
            }
            return false;
        }

        /** Finds the k-th pair that has a doubt, and its first doubt. */
        boolean findDoubt(Function f, int k) {
            fillCells(f);
            int before = 0;
            for (int g = 0; g < f.laidCount; g++) {
                for (int h = g + 1; h < f.laidCount; h++) {
                    if (haveDoubt(f, g, h)) {
                        if (before == k) {
                            lesser = g;
                            greater = h;
                            return true;
                        }
                        before++;
                    }
                }
            }
            return false;
        }

        private boolean haveDoubt(Function f, int g, int h) {
            int both = 1 << g | 1 << h;
            if ((f.plain & both) != both || (f.beatenBy(g) & 1 << h) != 0 || (f.beatenBy(h) & 1 << g) != 0) {
                return false;
            }
            int beaters = f.beatersOf(g) & f.beatersOf(h);
            for (int a = 0; a < first.size; a++) {
                for (int b = 0; b < second.size; b++) {
                    int takers = first.takers[a] & second.takers[b];
                    if ((takers & both) == both && (takers & beaters) == 0) {
                        return foundAt(a, b);
                    }
                }
            }
            return false;
        }

        private boolean foundAt(int a, int b) {
            atFirst = a;
            atSecond = b;
            return true;
        }

        /** The classes at places 0 and 1 of the found tuple (0, 1), and its weights there (2, 3). */
        int partOfTuple(int what) {
            switch (what) {
                case 0:
                    return first.classes[atFirst];
                case 1:
                    return second.classes[atSecond];
                case 2:
                    return first.weights[atFirst];
                default:
                    return second.weights[atSecond];
            }
        }
    }
}

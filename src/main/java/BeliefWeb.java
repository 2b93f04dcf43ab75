/**
 * A web of things that hang on one another by chance, asked for exact fractions.
 * Every call looks at its arguments first and answers with a number; none throws.
 */
public final class BeliefWeb {
    public static final int BAD = -1, RING = -2, MANY = -3, ROUGH = -4, NOUGHT = -5;

    private static final int MAX_THINGS = 12;
    private static final int MIN_VALUES = 2;
    private static final int MAX_VALUES = 4;
    private static final int MAX_TOTAL = 100;
    private static final int MAX_PARENTS = 3;
    private static final int MAX_ROWS = 64;
    private static final int MAX_WHOLES = 20000;
    private static final long MAX_ALL = 1000000000L;
    private static final int MAX_FORCE = 3;
    private static final int MAX_OPTIONS = 6;
    private static final int MAX_WORTH = 500;
    private static final int MAX_ACTS = 100;
    private static final int MAX_LIKELIEST = 10;

    private static final int SLOTS = MAX_THINGS * MAX_VALUES;
    private static final int TABLE = MAX_ROWS * MAX_VALUES;
    private static final int VALUE_BITS = 2;
    private static final int VALUE_MASK = 3;
    /** Euclid's steps on two longs stay under 93. */
    private static final int MAX_EUCLID = 100;

    private static final int NONE = -1;
    private static final int NO_SUCH = -2;
    private static final int ALL_KNOWN = -6;
    private static final int BAD_WORTH = 10000;

    private static final int ARROW = 0, CUT = 1, WEIGHT = 2, SEE = 3;
    private static final int ACT = 4, FORCE = 5, OPTIONS = 6, WORTH = 7;
    /** Numbers that one act takes in the history: its kind and up to four arguments. */
    private static final int ACT_SIZE = 5;

    private final Web web;
    private final History history;
    private final Survey survey;
    private final int[] shown;
    private int shownThings;
    private long tellUp;
    private long tellDown;

    public BeliefWeb() {
        web = new Web();
        history = new History();
        survey = new Survey();
        shown = new int[MAX_THINGS];
    }

    // ---- the web

    public int thing(int values, int total) {
        if (values < MIN_VALUES || values > MAX_VALUES || total < 1 || total > MAX_TOTAL) {
            return BAD;
        }
        if (web.things >= MAX_THINGS || web.allWholes() * values > MAX_WHOLES
                || web.allTotals() * total > MAX_ALL) {
            return MANY;
        }
        int made = web.things;
        web.addThing(values, total);
        history.startFrom(web);
        return made;
    }

    public int arrow(int a, int b) {
        if (!web.hasThing(a) || !web.hasThing(b) || a == b || web.parentPlace(b, a) != NONE) {
            return BAD;
        }
        if (isIn(web.ancestorsAnd(a), b)) {
            return RING;
        }
        if (web.parentCounts[b] >= MAX_PARENTS) {
            return MANY;
        }
        carryOut(ARROW, a, b, 0, 0);
        return web.parentCounts[b];
    }

    public int cut(int a, int b) {
        if (!web.hasThing(a) || !web.hasThing(b) || web.parentPlace(b, a) == NONE) {
            return BAD;
        }
        carryOut(CUT, a, b, 0, 0);
        return web.parentCounts[b];
    }

    public int weight(int x, int row, int value, int w) {
        if (!web.hasWeight(x, row, value) || w < 0 || w > web.totals[x]) {
            return BAD;
        }
        int old = web.weights[weightSlot(x, row, value)];
        carryOut(WEIGHT, x, row, value, w);
        return old;
    }

    public int told(int x, int row, int value) {
        return web.hasWeight(x, row, value) ? web.weights[weightSlot(x, row, value)] : BAD;
    }

    public int about(int x, int what) {
        if (!web.hasThing(x)) {
            return BAD;
        }
        switch (what) {
            case 0: return web.values[x];
            case 1: return web.totals[x];
            case 2: return web.parentCounts[x];
            case 3: return web.rows(x);
            case 4: return web.hasSoundTable(x) ? 1 : 0;
            case 5: return web.seen[x];
            case 6: return web.done[x];
            default: return BAD;
        }
    }

    public int parent(int x, int k) {
        if (!web.hasThing(x) || k < 0 || k >= web.parentCounts[x]) {
            return NO_SUCH;
        }
        return web.parents[parentSlot(x, k)];
    }

    public int sound() {
        return web.isSound() ? 1 : 0;
    }

    // ---- what is known

    public int see(int x, int value) {
        if (!web.mayBeKnownAs(x, value)) {
            return BAD;
        }
        carryOut(SEE, x, value, 0, 0);
        return 1;
    }

    public int act(int x, int value) {
        if (!web.mayBeKnownAs(x, value)) {
            return BAD;
        }
        carryOut(ACT, x, value, 0, 0);
        return 1;
    }

    public int force(int x, int value, int f) {
        if (!web.hasValue(x, value) || f < 0 || f > MAX_FORCE) {
            return BAD;
        }
        int old = web.forces[slot(x, value)];
        carryOut(FORCE, x, value, f, 0);
        return old;
    }

    // ---- what is asked

    public int chance() {
        if (!web.isSound()) {
            return ROUGH;
        }
        survey.goOver(web);
        tell(survey.sum, web.allTotals());
        return 1;
    }

    public int ask(int x, int value) {
        if (!web.hasValue(x, value)) {
            return BAD;
        }
        int trouble = trouble();
        if (trouble != 0) {
            return trouble;
        }
        tell(survey.shares[slot(x, value)], survey.sum);
        return 1;
    }

    public int both(int x, int v, int y, int w) {
        if (!web.hasValue(x, v) || !web.hasValue(y, w)) {
            return BAD;
        }
        int trouble = trouble();
        if (trouble != 0) {
            return trouble;
        }
        long sum = survey.sum;
        survey.goOverThoseWith(web, x, v);
        tell(survey.shares[slot(y, w)], sum);
        return 1;
    }

    public long up() {
        return tellUp;
    }

    public long down() {
        return tellDown;
    }

    public int most(int x) {
        if (!web.hasThing(x)) {
            return BAD;
        }
        int trouble = trouble();
        if (trouble != 0) {
            return trouble;
        }
        int found = 0;
        for (int v = 1; v < web.values[x]; v++) {
            if (survey.shares[slot(x, v)] > survey.shares[slot(x, found)]) {
                found = v;
            }
        }
        return found;
    }

    public int likeliest(int k) {
        if (k < 0 || k >= MAX_LIKELIEST) {
            return BAD;
        }
        if (!web.isSound()) {
            return ROUGH;
        }
        survey.rank(web, k + 1);
        if (k >= survey.ranked) {
            return 0;
        }
        show(survey.rankedWholes[k]);
        tell(survey.rankedLikelihoods[k], survey.sum);
        return 1;
    }

    public int at(int x) {
        return x >= 0 && x < shownThings ? shown[x] : NO_SUCH;
    }

    public int wholes() {
        if (!web.isSound()) {
            return ROUGH;
        }
        survey.goOver(web);
        return survey.wholesMet;
    }

    public int apart(int x, int y) {
        if (!web.hasThing(x) || !web.hasThing(y)) {
            return BAD;
        }
        return x != y && !web.hasOpenRoad(x, y) ? 1 : 0;
    }

    // ---- options

    public int options(int n) {
        if (n < 0 || n > MAX_OPTIONS) {
            return BAD;
        }
        int old = web.options;
        carryOut(OPTIONS, n, 0, 0, 0);
        return old;
    }

    public int worth(int o, int x, int value, int u) {
        if (!web.hasOption(o) || !web.hasValue(x, value) || u < -MAX_WORTH || u > MAX_WORTH) {
            return BAD_WORTH;
        }
        int old = web.worths[worthSlot(o, x, value)];
        carryOut(WORTH, o, x, value, u);
        return old;
    }

    public int expected(int o) {
        if (!web.hasOption(o)) {
            return BAD;
        }
        int trouble = trouble();
        if (trouble != 0) {
            return trouble;
        }
        tell(survey.worthSum(web, o), survey.sum);
        return 1;
    }

    public int best() {
        if (web.options == 0) {
            return BAD;
        }
        int trouble = trouble();
        if (trouble != 0) {
            return trouble;
        }
        int found = survey.bestOption(web);
        tell(survey.worthSum(web, found), survey.sum);
        return found;
    }

    public int gain(int x) {
        if (!web.hasThing(x) || web.options == 0) {
            return BAD;
        }
        int trouble = trouble();
        if (trouble != 0) {
            return trouble;
        }
        long sum = survey.sum;
        long greatestNow = survey.greatestWorthSum(web);
        tell(web.isFree(x) ? gainSum(x, greatestNow) : 0, sum);
        return 1;
    }

    public int next() {
        if (web.options == 0) {
            return BAD;
        }
        int trouble = trouble();
        if (trouble != 0) {
            return trouble;
        }
        long sum = survey.sum;
        long greatestNow = survey.greatestWorthSum(web);
        int found = ALL_KNOWN;
        long greatestGain = 0;
        for (int x = 0; x < web.things; x++) {
            if (web.isFree(x)) {
                long gainOfX = gainSum(x, greatestNow);
                if (found == ALL_KNOWN || gainOfX > greatestGain) {
                    found = x;
                    greatestGain = gainOfX;
                }
            }
        }
        if (found != ALL_KNOWN) {
            tell(greatestGain, sum);
        }
        return found;
    }

    // ---- back

    public int undo() {
        if (history.size == 0) {
            return BAD;
        }
        history.takeBackLatest(web);
        return history.size;
    }

    public int count(int what) {
        switch (what) {
            case 0: return web.things;
            case 1: return web.arrows();
            case 2: return web.options;
            case 3: return history.size;
            default: return BAD;
        }
    }

    // ---- shared by the calls above

    private void carryOut(int kind, int a, int b, int c, int d) {
        history.add(kind, a, b, c, d);
        web.carryOut(kind, a, b, c, d);
    }

    /** Goes over all wholes: ROUGH, NOUGHT, or 0 if questions can be answered from the survey. */
    private int trouble() {
        if (!web.isSound()) {
            return ROUGH;
        }
        survey.goOver(web);
        return survey.sum == 0 ? NOUGHT : 0;
    }

    private void tell(long above, long below) {
        if (below <= 0) {
            return;
        }
        long divisor = commonDivisor(Math.abs(above), below);
        if (divisor > 0) {
            tellUp = above / divisor;
            tellDown = below / divisor;
        }
    }

    private static long commonDivisor(long a, long b) {
        long greater = a;
        long lesser = b;
        for (int step = 0; step < MAX_EUCLID && lesser != 0; step++) {
            long rest = greater % lesser;
            greater = lesser;
            lesser = rest;
        }
        return greater;
    }

    private void show(int whole) {
        shownThings = web.things;
        int rest = whole;
        for (int x = shownThings - 1; x >= 0; x--) {
            shown[x] = rest & VALUE_MASK;
            rest >>= VALUE_BITS;
        }
    }

    /**
     * The GAIN of x times THE SUM. A value of chance 0 adds nothing, for all its sums are 0.
     * At most 12000 times 3^12 times 10^9, which a long holds.
     */
    private long gainSum(int x, long greatestNow) {
        long greatestThen = 0;
        for (int v = 0; v < web.values[x]; v++) {
            survey.goOverThoseWith(web, x, v);
            greatestThen += survey.greatestWorthSum(web);
        }
        return greatestThen - greatestNow;
    }

    private static int slot(int x, int value) {
        return x * MAX_VALUES + value;
    }

    private static int weightSlot(int x, int row, int value) {
        return x * TABLE + row * MAX_VALUES + value;
    }

    private static int worthSlot(int o, int x, int value) {
        return o * SLOTS + slot(x, value);
    }

    private static int parentSlot(int x, int k) {
        return x * MAX_PARENTS + k;
    }

    private static boolean isIn(int set, int x) {
        return (set >> x & 1) != 0;
    }

    /** All that acts can change. Its methods trust arguments that the public calls have looked at. */
    private static final class Web {
        int things;
        int options;
        final int[] values = new int[MAX_THINGS];
        final int[] totals = new int[MAX_THINGS];
        final int[] parentCounts = new int[MAX_THINGS];
        final int[] parents = new int[MAX_THINGS * MAX_PARENTS];
        final int[] weights = new int[MAX_THINGS * TABLE];
        final int[] seen = new int[MAX_THINGS];
        final int[] done = new int[MAX_THINGS];
        final int[] forces = new int[SLOTS];
        final int[] worths = new int[MAX_OPTIONS * SLOTS];

        boolean hasThing(int x) {
            return x >= 0 && x < things;
        }

        boolean hasValue(int x, int value) {
            return hasThing(x) && value >= 0 && value < values[x];
        }

        boolean mayBeKnownAs(int x, int value) {
            return hasThing(x) && (value == NONE || hasValue(x, value));
        }

        boolean hasWeight(int x, int row, int value) {
            return hasValue(x, value) && row >= 0 && row < rows(x);
        }

        boolean hasOption(int o) {
            return o >= 0 && o < options;
        }

        boolean isFree(int x) {
            return seen[x] == NONE && done[x] == NONE;
        }

        int allWholes() {
            int product = 1;
            for (int x = 0; x < things; x++) {
                product *= values[x];
            }
            return product;
        }

        long allTotals() {
            long product = 1;
            for (int x = 0; x < things; x++) {
                product *= totals[x];
            }
            return product;
        }

        int arrows() {
            int sum = 0;
            for (int x = 0; x < things; x++) {
                sum += parentCounts[x];
            }
            return sum;
        }

        int rows(int x) {
            int product = 1;
            for (int k = 0; k < parentCounts[x]; k++) {
                product *= values[parents[parentSlot(x, k)]];
            }
            return product;
        }

        /** The number of x's row if each thing has its value in the given list. */
        int rowAt(int x, int[] given) {
            int row = 0;
            for (int k = 0; k < parentCounts[x]; k++) {
                int p = parents[parentSlot(x, k)];
                row = row * values[p] + given[p];
            }
            return row;
        }

        boolean isSound() {
            for (int x = 0; x < things; x++) {
                if (done[x] == NONE && !hasSoundTable(x)) {
                    return false;
                }
            }
            return things > 0;
        }

        boolean hasSoundTable(int x) {
            int rows = rows(x);
            for (int row = 0; row < rows; row++) {
                int sum = 0;
                for (int v = 0; v < values[x]; v++) {
                    sum += weights[weightSlot(x, row, v)];
                }
                if (sum != totals[x]) {
                    return false;
                }
            }
            return true;
        }

        /** What thing x brings to the likelihood of a whole in which it has this row and value. */
        int factor(int x, int row, int value) {
            int force = forces[slot(x, value)];
            if (done[x] != NONE) {
                return done[x] == value ? force * totals[x] : 0;
            }
            if (seen[x] != NONE && seen[x] != value) {
                return 0;
            }
            return force * weights[weightSlot(x, row, value)];
        }

        int parentPlace(int x, int p) {
            for (int k = 0; k < parentCounts[x]; k++) {
                if (parents[parentSlot(x, k)] == p) {
                    return k;
                }
            }
            return NONE;
        }

        int parentSet(int x) {
            int set = 0;
            for (int k = 0; k < parentCounts[x]; k++) {
                set |= 1 << parents[parentSlot(x, k)];
            }
            return set;
        }

        /** Thing x, and all from which a row of arrows leads to it. */
        int ancestorsAnd(int x) {
            int found = 1 << x;
            for (int round = 0; round < things; round++) {
                for (int t = 0; t < things; t++) {
                    if (isIn(found, t)) {
                        found |= parentSet(t);
                    }
                }
            }
            return found;
        }

        /** Without the arrow to a thing that is done, here and below. */
        int parentSetNow(int x) {
            return done[x] == NONE ? parentSet(x) : 0;
        }

        int childSetNow(int p) {
            int set = 0;
            for (int x = 0; x < things; x++) {
                if (isIn(parentSetNow(x), p)) {
                    set |= 1 << x;
                }
            }
            return set;
        }

        /**
         * Follows walks from x that pass through free things and turn round, from an arrow's end
         * to another arrow's end, at seen ones. Unlike a road, a walk may come to a thing again.
         * Each open road has its walk: where two arrows of it end above a thing that is seen, the
         * walk goes down to that thing and back. And each walk has its open road: leave out what
         * lies between two visits to one thing; if two arrows end there now, then it was a seen
         * one, or the walk went down from it and turned round, so that a seen one lies below it.
         */
        boolean hasOpenRoad(int x, int y) {
            int alongArrow = childSetNow(x);
            int againstArrow = parentSetNow(x);
            for (int round = 0; round < 2 * things; round++) {
                for (int t = 0; t < things; t++) {
                    boolean along = isIn(alongArrow, t);
                    boolean against = isIn(againstArrow, t);
                    if (isFree(t) && (along || against)) {
                        alongArrow |= childSetNow(t);
                    }
                    if (isFree(t) && against || seen[t] != NONE && along) {
                        againstArrow |= parentSetNow(t);
                    }
                }
            }
            return isIn(alongArrow | againstArrow, y);
        }

        void addThing(int valueCount, int total) {
            int x = things;
            things++;
            values[x] = valueCount;
            totals[x] = total;
            seen[x] = NONE;
            done[x] = NONE;
            for (int v = 0; v < valueCount; v++) {
                forces[slot(x, v)] = 1;
            }
            resetTable(x);
        }

        void carryOut(int kind, int a, int b, int c, int d) {
            switch (kind) {
                case ARROW:
                    addParent(b, a);
                    break;
                case CUT:
                    dropParent(b, parentPlace(b, a));
                    break;
                case WEIGHT:
                    weights[weightSlot(a, b, c)] = d;
                    break;
                case SEE:
                    seen[a] = b;
                    done[a] = NONE;
                    break;
                case ACT:
                    done[a] = b;
                    seen[a] = NONE;
                    break;
                case FORCE:
                    forces[slot(a, b)] = c;
                    break;
                case OPTIONS:
                    setOptions(a);
                    break;
                case WORTH:
                    worths[worthSlot(a, b, c)] = d;
                    break;
                default:
                    break;
            }
        }

        void addParent(int x, int p) {
            if (parentCounts[x] >= MAX_PARENTS) {
                return;
            }
            parents[parentSlot(x, parentCounts[x])] = p;
            parentCounts[x]++;
            resetTable(x);
        }

        void dropParent(int x, int place) {
            if (place < 0 || place >= parentCounts[x]) {
                return;
            }
            parentCounts[x]--;
            for (int k = place; k < parentCounts[x]; k++) {
                parents[parentSlot(x, k)] = parents[parentSlot(x, k + 1)];
            }
            resetTable(x);
        }

        void resetTable(int x) {
            int rows = rows(x);
            for (int row = 0; row < rows; row++) {
                for (int v = 0; v < values[x]; v++) {
                    weights[weightSlot(x, row, v)] = v == 0 ? totals[x] : 0;
                }
            }
        }

        /** Options that go lose their worths at once, so those that come have none. */
        void setOptions(int n) {
            for (int i = n * SLOTS; i < worths.length; i++) {
                worths[i] = 0;
            }
            options = n;
        }

        void copyFrom(Web other) {
            things = other.things;
            options = other.options;
            copyAll(other.values, values);
            copyAll(other.totals, totals);
            copyAll(other.parentCounts, parentCounts);
            copyAll(other.parents, parents);
            copyAll(other.weights, weights);
            copyAll(other.seen, seen);
            copyAll(other.done, done);
            copyAll(other.forces, forces);
            copyAll(other.worths, worths);
        }

        private static void copyAll(int[] from, int[] to) {
            System.arraycopy(from, 0, to, 0, Math.min(from.length, to.length));
        }
    }

    /**
     * The acts that can be undone, and the web as it was before them. An act is undone by
     * carrying out all others anew from there: no act needs a way back of its own.
     */
    private static final class History {
        final Web start = new Web();
        final int[] acts = new int[MAX_ACTS * ACT_SIZE];
        int first;
        int size;

        void startFrom(Web now) {
            start.copyFrom(now);
            first = 0;
            size = 0;
        }

        void add(int kind, int a, int b, int c, int d) {
            if (size >= MAX_ACTS) {
                repeat(0, start);
                first = (first + 1) % MAX_ACTS;
                size--;
            }
            int i = placeOf(size);
            acts[i] = kind;
            acts[i + 1] = a;
            acts[i + 2] = b;
            acts[i + 3] = c;
            acts[i + 4] = d;
            size++;
        }

        void takeBackLatest(Web now) {
            if (size == 0) {
                return;
            }
            size--;
            now.copyFrom(start);
            for (int k = 0; k < size; k++) {
                repeat(k, now);
            }
        }

        private void repeat(int k, Web on) {
            int i = placeOf(k);
            on.carryOut(acts[i], acts[i + 1], acts[i + 2], acts[i + 3], acts[i + 4]);
        }

        private int placeOf(int k) {
            return (first + k) % MAX_ACTS * ACT_SIZE;
        }
    }

    /**
     * Goes over the wholes of a sound web whose likelihood is above 0. The sum of all stays at
     * or under 3^12 times 10^9, and with worths under 6000 times that, which a long holds.
     */
    private static final class Survey {
        final int[] order = new int[MAX_THINGS];
        final int[] chosen = new int[MAX_THINGS];
        /** For each thing and value, the sum over the wholes in which the thing has it. */
        final long[] shares = new long[SLOTS];
        final long[] rankedLikelihoods = new long[MAX_LIKELIEST];
        final int[] rankedWholes = new int[MAX_LIKELIEST];
        int ranked;
        int wanted;
        int heldThing;
        int heldValue;
        int wholesMet;
        long sum;

        void goOver(Web web) {
            heldThing = NONE;
            wanted = 0;
            start(web);
        }

        void goOverThoseWith(Web web, int x, int value) {
            heldThing = x;
            heldValue = value;
            wanted = 0;
            start(web);
        }

        void rank(Web web, int many) {
            heldThing = NONE;
            wanted = Math.min(many, MAX_LIKELIEST);
            start(web);
        }

        private void start(Web web) {
            for (int i = 0; i < SLOTS; i++) {
                shares[i] = 0;
            }
            ranked = 0;
            wholesMet = 0;
            putParentsFirst(web);
            sum = spread(web, this, 0, 1);
        }

        /** With parents before children a thing's row is known when its turn comes. */
        private void putParentsFirst(Web web) {
            int placed = 0;
            int many = 0;
            for (int round = 0; round < web.things; round++) {
                for (int x = 0; x < web.things; x++) {
                    if (!isIn(placed, x) && (web.parentSet(x) & ~placed) == 0) {
                        order[many] = x;
                        many++;
                        placed |= 1 << x;
                    }
                }
            }
        }

        /** The sum over all wholes that begin as chosen; what can only be 0 is not gone into. */
        private static long spread(Web web, Survey s, int depth, long likelihood) {
            if (depth >= web.things || depth >= MAX_THINGS) {
                s.meet(web, likelihood);
                return likelihood;
            }
            int x = s.order[depth];
            int row = web.rowAt(x, s.chosen);
            long all = 0;
            for (int v = 0; v < web.values[x]; v++) {
                long part = likelihood * web.factor(x, row, v);
                if (part > 0 && (x != s.heldThing || v == s.heldValue)) {
                    s.chosen[x] = v;
                    long below = spread(web, s, depth + 1, part);
                    s.shares[slot(x, v)] += below;
                    all += below;
                }
            }
            return all;
        }

        private void meet(Web web, long likelihood) {
            wholesMet++;
            if (wanted == 0) {
                return;
            }
            int whole = wholeChosen(web);
            if (ranked < wanted) {
                ranked++;
            } else if (!isBefore(likelihood, whole, ranked - 1)) {
                return;
            }
            int place = ranked - 1;
            while (place > 0 && isBefore(likelihood, whole, place - 1)) {
                rankedLikelihoods[place] = rankedLikelihoods[place - 1];
                rankedWholes[place] = rankedWholes[place - 1];
                place--;
            }
            rankedLikelihoods[place] = likelihood;
            rankedWholes[place] = whole;
        }

        private boolean isBefore(long likelihood, int whole, int place) {
            long other = rankedLikelihoods[place];
            return likelihood > other || likelihood == other && whole < rankedWholes[place];
        }

        /** Thing 0 stands uppermost, so that the lesser number is the whole that comes first. */
        private int wholeChosen(Web web) {
            int whole = 0;
            for (int x = 0; x < web.things; x++) {
                whole = whole << VALUE_BITS | chosen[x];
            }
            return whole;
        }

        /** An option's expected worth times the sum. */
        long worthSum(Web web, int o) {
            long all = 0;
            for (int x = 0; x < web.things; x++) {
                for (int v = 0; v < web.values[x]; v++) {
                    all += web.worths[worthSlot(o, x, v)] * shares[slot(x, v)];
                }
            }
            return all;
        }

        int bestOption(Web web) {
            int found = 0;
            for (int o = 1; o < web.options; o++) {
                if (worthSum(web, o) > worthSum(web, found)) {
                    found = o;
                }
            }
            return found;
        }

        long greatestWorthSum(Web web) {
            return worthSum(web, bestOption(web));
        }
    }
}

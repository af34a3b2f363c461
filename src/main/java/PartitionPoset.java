/**
 * Partitions of a small set, with restrictions, and the partially ordered set that the admitted
 * partitions form under refinement.
 *
 * <p>A partition is held as a set of pairs: one bit for each two elements that are in one block.
 * So a is below b if a's pairs are a subset of b's, the meet is the intersection, and the
 * disagreements are the difference.
 */
public final class PartitionPoset {
    public static final int BAD = -1, EMPTY = -2, STATE = -3, FULL = -4, NONE = -9;

    private static final int FIRST_SIZE = 5;
    private static final int ELEMENTS = 6;
    private static final int PARTITIONS = 203;
    private static final int REGISTERS = 8;
    private static final int REMEMBERED = 10;
    private static final int TEXT_BYTES = 20;
    private static final int STEPS = 5;
    private static final int BASE = 9;
    private static final int TOLD = 8;
    /** The bits 1 to 6. */
    private static final int ALL_ALLOWED = 126;
    /** What a register holds that is empty: no set of pairs is negative. */
    private static final int VACANT = -1;
    private static final int TEXT_FAULT = -10;
    private static final long LONG_FAULT = -1000000000L;
    private static final long FIRST_HASH = 18446L;

    /** The pairs of elements, ordered by the smaller element and then by the greater one. */
    private static final int PAIRS = 15;
    private static final int[] SMALLER = {0, 0, 0, 0, 0, 1, 1, 1, 1, 2, 2, 2, 3, 3, 4};
    private static final int[] GREATER = {1, 2, 3, 4, 5, 2, 3, 4, 5, 3, 4, 5, 4, 5, 5};

    private final State state = new State();
    private final History history = new History();
    private final Text text = new Text();
    private final Catalog catalog = new Catalog();
    private final Roster roster = new Roster();
    private final Span span = new Span();
    private final Shape shape = new Shape();
    private final Shape otherShape = new Shape();
    private final int[] image = new int[ELEMENTS];
    private final int[] best = new int[1 << ELEMENTS];

    public PartitionPoset() {
        state.reset(FIRST_SIZE);
        refresh();
    }

    // ---- the ground set and restrictions

    public int setSize(int n) {
        if (n < 1 || n > ELEMENTS) {
            return BAD;
        }
        int before = state.n;
        history.remember(state);
        state.reset(n);
        refresh();
        return before;
    }

    public int allowSize(int size, boolean allowed) {
        if (size < 1 || size > ELEMENTS) {
            return BAD;
        }
        int before = state.sizes >> size & 1;
        history.remember(state);
        state.sizes = withBits(state.sizes, 1 << size, allowed);
        refresh();
        return before;
    }

    public int allowNumber(int number, boolean allowed) {
        if (number < 1 || number > ELEMENTS) {
            return BAD;
        }
        int before = state.numbers >> number & 1;
        history.remember(state);
        state.numbers = withBits(state.numbers, 1 << number, allowed);
        refresh();
        return before;
    }

    public int apart(int i, int j, boolean on) {
        if (!isElement(i) || !isElement(j) || i == j) {
            return BAD;
        }
        int pair = pairBit(i, j);
        int before = (state.apartPairs & pair) != 0 ? 1 : 0;
        history.remember(state);
        state.apartPairs = withBits(state.apartPairs, pair, on);
        refresh();
        return before;
    }

    public int together(int i, int j, boolean on) {
        if (!isElement(i) || !isElement(j) || i == j) {
            return BAD;
        }
        int pair = pairBit(i, j);
        int before = (state.togetherPairs & pair) != 0 ? 1 : 0;
        history.remember(state);
        state.togetherPairs = withBits(state.togetherPairs, pair, on);
        refresh();
        return before;
    }

    public int noncrossing(boolean on) {
        int before = state.noncrossingOnly ? 1 : 0;
        history.remember(state);
        state.noncrossingOnly = on;
        refresh();
        return before;
    }

    // ---- texts

    public int type(int c) {
        if (c < 0 || c > 127) {
            return BAD;
        }
        return text.append(c) ? text.length : FULL;
    }

    public int clear() {
        int before = text.length;
        text.length = 0;
        return before;
    }

    public int read(int t) {
        if (!isRegister(t)) {
            return BAD;
        }
        int pairs = text.parse(state.n);
        return pairs < 0 ? pairs : put(t, pairs);
    }

    // ---- registers

    public int finest(int t) {
        return isRegister(t) ? put(t, 0) : BAD;
    }

    public int coarsest(int t) {
        return isRegister(t) ? put(t, allPairs(state.n)) : BAD;
    }

    public int copy(int r, int t) {
        int fault = faultOf(r, r, isRegister(t));
        return fault != 0 ? fault : put(t, state.registers[r]);
    }

    public int meet(int r, int s, int t) {
        int fault = faultOf(r, s, isRegister(t));
        return fault != 0 ? fault : put(t, state.registers[r] & state.registers[s]);
    }

    public int join(int r, int s, int t) {
        int fault = faultOf(r, s, isRegister(t));
        if (fault != 0) {
            return fault;
        }
        return put(t, catalog.closure(state.registers[r] | state.registers[s]));
    }

    public int unite(int r, int i, int j) {
        int fault = faultOf(r, r, isElement(i) && isElement(j));
        if (fault != 0) {
            return fault;
        }
        return put(r, catalog.closure(state.registers[r] | pairBit(i, j)));
    }

    public int isolate(int r, int i) {
        int fault = faultOf(r, r, isElement(i));
        if (fault != 0) {
            return fault;
        }
        int everyElement = (1 << ELEMENTS) - 1;
        return put(r, state.registers[r] & ~pairsWith(everyElement, i));
    }

    public int swap(int r, int i, int j) {
        int fault = faultOf(r, r, isElement(i) && isElement(j));
        if (fault != 0) {
            return fault;
        }
        for (int e = 0; e < ELEMENTS; e++) {
            image[e] = e == i ? j : e == j ? i : e;
        }
        return moveElements(r);
    }

    public int rotate(int r) {
        int fault = faultOf(r, r, true);
        if (fault != 0) {
            return fault;
        }
        for (int e = 0; e < ELEMENTS; e++) {
            image[e] = e + 1 < state.n ? e + 1 : 0;
        }
        return moveElements(r);
    }

    public int complement(int r, int t) {
        int fault = faultOf(r, r, isRegister(t));
        if (fault != 0) {
            return fault;
        }
        spellRegister(r);
        if (shape.firstCrossing() != NONE) {
            return STATE;
        }
        return put(t, complementOf(state.registers[r], state.n));
    }

    public int unrank(int t, int k) {
        if (!isRegister(t) || !roster.has(k)) {
            return BAD;
        }
        return put(t, roster.pairs[k]);
    }

    public int next(int r) {
        int fault = faultOf(r, r, true);
        if (fault != 0) {
            return fault;
        }
        spellRegister(r);
        return stepTo(r, roster.firstBehind(shape.growthNumber()));
    }

    public int previous(int r) {
        int fault = faultOf(r, r, true);
        if (fault != 0) {
            return fault;
        }
        spellRegister(r);
        return stepTo(r, roster.lastBefore(shape.growthNumber()));
    }

    public int draw(int t, int seed) {
        if (!isRegister(t)) {
            return BAD;
        }
        if (roster.size == 0) {
            return STATE;
        }
        int x = seed * 1103515245 + 12345;
        return stepTo(t, (x >>> 16 & 32767) % roster.size);
    }

    // ---- one partition

    public int blocks(int r) {
        int fault = faultOf(r, r, true);
        return fault != 0 ? fault : blockCountOf(state.registers[r]);
    }

    public int blockOf(int r, int i) {
        int fault = faultOf(r, r, isElement(i));
        if (fault != 0) {
            return fault;
        }
        spellRegister(r);
        return shape.labels[i];
    }

    public int block(int r, int b) {
        int fault = faultOf(r, r, true);
        if (fault != 0) {
            return fault;
        }
        spellRegister(r);
        return b < 0 || b >= shape.blockCount ? NONE : shape.members[b];
    }

    public int typeOf(int r) {
        int fault = faultOf(r, r, true);
        if (fault != 0) {
            return fault;
        }
        spellRegister(r);
        return shape.typeNumber();
    }

    public int crossings(int r) {
        int fault = faultOf(r, r, true);
        if (fault != 0) {
            return fault;
        }
        spellRegister(r);
        return shape.crossingCount();
    }

    public int index(int r) {
        int fault = faultOf(r, r, true);
        return fault != 0 ? fault : roster.find(state.registers[r]);
    }

    public int why(int r) {
        int fault = faultOf(r, r, true);
        if (fault != 0) {
            return fault;
        }
        int pairs = state.registers[r];
        spellRegister(r);
        boolean crossing = shape.firstCrossing() != NONE;
        return state.reason(pairs, shape.sizeSet(), shape.blockCount, crossing);
    }

    public int where(int r) {
        int reason = why(r);
        if (reason < 0) {
            return reason;
        }
        int pairs = state.registers[r];
        spellRegister(r);
        switch (reason) {
            case 1:
                return shape.firstBlockNotIn(state.sizes);
            case 2:
                return shape.blockCount;
            case 3:
                return firstPair(pairs & state.apartPairs);
            case 4:
                return firstPair(state.togetherPairs & ~pairs);
            case 5:
                return shape.firstCrossing();
            default:
                return NONE;
        }
    }

    // ---- the admitted partitions

    public int count() {
        return roster.size;
    }

    public int countWith(int k) {
        return k < 1 || k > ELEMENTS ? BAD : roster.byNumber[k];
    }

    public int below(int r, int s) {
        int fault = faultOf(r, s, true);
        if (fault != 0) {
            return fault;
        }
        return isBelow(state.registers[r], state.registers[s]) ? 1 : 0;
    }

    public int covers(int r, boolean down) {
        int fault = faultOfAdmitted(r, r, true);
        if (fault != 0) {
            return fault;
        }
        roster.findNearest(state.registers[r], down, state.registers[r]);
        return roster.nearestCount;
    }

    public int bounds(int r, int s, boolean down) {
        int fault = faultOf(r, s, true);
        if (fault != 0) {
            return fault;
        }
        findNearestBounds(r, s, down);
        return roster.nearestCount;
    }

    public int bound(int r, int s, boolean down, int t) {
        int fault = faultOf(r, s, isRegister(t));
        if (fault != 0) {
            return fault;
        }
        findNearestBounds(r, s, down);
        if (roster.nearestCount != 1) {
            return STATE;
        }
        return stepTo(t, roster.find(roster.nearest[0]));
    }

    // ---- intervals

    public int interval(int r, int s) {
        int fault = faultOf(r, s, true);
        if (fault != 0) {
            return fault;
        }
        selectSpan(r, s);
        return span.size;
    }

    public long moebius(int r, int s) {
        int fault = faultOfAdmitted(r, s, true);
        if (fault != 0) {
            return LONG_FAULT + fault;
        }
        selectSpan(r, s);
        span.putMoebius();
        return span.lastValue();
    }

    public long chains(int r, int s, int k) {
        int fault = faultOfAdmitted(r, s, k >= 0 && k <= STEPS);
        if (fault != 0) {
            return fault;
        }
        selectSpan(r, s);
        span.putChains(k);
        return span.lastValue();
    }

    public long maximalChains(int r, int s) {
        int fault = faultOfAdmitted(r, s, true);
        if (fault != 0) {
            return fault;
        }
        selectSpan(r, s);
        span.putMaximalChains();
        return span.lastValue();
    }

    public int height(int r, int s) {
        int fault = faultOfAdmitted(r, s, true);
        if (fault != 0) {
            return fault;
        }
        selectSpan(r, s);
        if (span.size == 0) {
            return NONE;
        }
        span.putHeights();
        return (int) span.lastValue();
    }

    public long rankSum(int r, int s, int x) {
        int fault = faultOf(r, s, isBase(x));
        if (fault != 0) {
            return LONG_FAULT + fault;
        }
        selectSpan(r, s);
        int blocksBelow = blockCountOf(state.registers[r]);
        long sum = 0;
        for (int z = 0; z < span.size; z++) {
            sum += power(x, blocksBelow - span.blockCounts[z]);
        }
        return sum;
    }

    public long characteristic(int r, int s, int x) {
        int fault = faultOf(r, s, isBase(x));
        if (fault == 0 && roster.find(state.registers[r]) == NONE) {
            fault = STATE;
        }
        if (fault != 0) {
            return LONG_FAULT + fault;
        }
        selectSpan(r, s);
        span.putMoebius();
        int blocksAbove = blockCountOf(state.registers[s]);
        long sum = 0;
        for (int z = 0; z < span.size; z++) {
            sum += span.values[z] * power(x, span.blockCounts[z] - blocksAbove);
        }
        return sum;
    }

    // ---- distances

    public int transfers(int r, int s) {
        int fault = faultOf(r, s, true);
        if (fault != 0) {
            return fault;
        }
        spellRegister(r);
        otherShape.spell(state.registers[s], state.n);
        return state.n - mostThatStay();
    }

    public int disagreements(int r, int s) {
        int fault = faultOf(r, s, true);
        if (fault != 0) {
            return fault;
        }
        return Integer.bitCount(state.registers[r] ^ state.registers[s]);
    }

    public int median(int set, int t) {
        if (set < 1 || set >= 1 << REGISTERS || !isRegister(t)) {
            return BAD;
        }
        for (int r = 0; r < REGISTERS; r++) {
            if ((set >> r & 1) != 0 && state.registers[r] == VACANT) {
                return EMPTY;
            }
        }
        if (roster.size == 0) {
            return STATE;
        }
        int chosen = 0;
        int smallest = disagreementsWith(set, roster.pairs[0]);
        for (int k = 1; k < roster.size; k++) {
            int sum = disagreementsWith(set, roster.pairs[k]);
            if (sum < smallest) {
                smallest = sum;
                chosen = k;
            }
        }
        stepTo(t, chosen);
        return smallest;
    }

    // ---- history

    public int undo() {
        if (!history.restore(state)) {
            return STATE;
        }
        refresh();
        return history.remembered;
    }

    public int told(int what) {
        switch (what) {
            case 0:
                return state.n;
            case 1:
                return state.filledRegisters();
            case 2:
                return state.sizes;
            case 3:
                return state.numbers;
            case 4:
                return Integer.bitCount(state.apartPairs);
            case 5:
                return Integer.bitCount(state.togetherPairs);
            case 6:
                return state.noncrossingOnly ? 1 : 0;
            case 7:
                return text.length;
            case 8:
                return history.remembered;
            default:
                return BAD;
        }
    }

    public long digest() {
        long h = FIRST_HASH;
        for (int what = 0; what <= TOLD; what++) {
            h = 31 * h + told(what);
        }
        h = 31 * h + count();
        for (int k = 1; k <= ELEMENTS; k++) {
            h = 31 * h + countWith(k);
        }
        for (int r = 0; r < REGISTERS; r++) {
            h = state.registers[r] == VACANT ? 31 * h + NONE : hashOfRegister(h, r);
        }
        return h;
    }

    private long hashOfRegister(long before, int r) {
        long h = 31 * before + blocks(r);
        for (int e = 0; e < state.n; e++) {
            h = 31 * h + blockOf(r, e);
        }
        h = 31 * h + why(r);
        h = 31 * h + where(r);
        return 31 * h + index(r);
    }

    // ---- what the methods share

    private static boolean isRegister(int r) {
        return r >= 0 && r < REGISTERS;
    }

    private boolean isElement(int e) {
        return e >= 0 && e < state.n;
    }

    private static boolean isBase(int x) {
        return x >= -BASE && x <= BASE;
    }

    /** Returns BAD or EMPTY, or 0 if r and s can be read and the other arguments are in range. */
    private int faultOf(int r, int s, boolean othersInRange) {
        if (!othersInRange || !isRegister(r) || !isRegister(s)) {
            return BAD;
        }
        return state.registers[r] == VACANT || state.registers[s] == VACANT ? EMPTY : 0;
    }

    /** Returns what faultOf returns, or STATE if one of the partitions is not admitted. */
    private int faultOfAdmitted(int r, int s, boolean othersInRange) {
        int fault = faultOf(r, s, othersInRange);
        if (fault != 0) {
            return fault;
        }
        boolean bothAdmitted = roster.find(state.registers[r]) != NONE
                && roster.find(state.registers[s]) != NONE;
        return bothAdmitted ? 0 : STATE;
    }

    /** Brings what is derived from the ground set and the restrictions up to date. */
    private void refresh() {
        catalog.fill(state.n);
        roster.select(catalog, state);
    }

    private int put(int t, int pairs) {
        history.remember(state);
        state.registers[t] = pairs;
        return blockCountOf(pairs);
    }

    /** The change that puts the admitted partition k into r, or leaves r if k is NONE. */
    private int stepTo(int r, int k) {
        history.remember(state);
        if (!roster.has(k)) {
            return NONE;
        }
        state.registers[r] = roster.pairs[k];
        return k;
    }

    /** The change that puts image[e] where each element e was. */
    private int moveElements(int r) {
        int before = state.registers[r];
        int after = 0;
        for (int p = 0; p < PAIRS; p++) {
            if ((before >> p & 1) != 0) {
                after |= pairBit(image[SMALLER[p]], image[GREATER[p]]);
            }
        }
        put(r, after);
        return after != before ? 1 : 0;
    }

    private void spellRegister(int r) {
        shape.spell(state.registers[r], state.n);
    }

    private int blockCountOf(int pairs) {
        shape.spell(pairs, state.n);
        return shape.blockCount;
    }

    private void findNearestBounds(int r, int s, boolean down) {
        int one = state.registers[r];
        int other = state.registers[s];
        roster.findNearest(down ? one & other : one | other, down, VACANT);
    }

    private void selectSpan(int r, int s) {
        span.select(roster, state.registers[r], state.registers[s]);
    }

    private int disagreementsWith(int set, int pairs) {
        int sum = 0;
        for (int r = 0; r < REGISTERS; r++) {
            if ((set >> r & 1) != 0) {
                sum += Integer.bitCount(state.registers[r] ^ pairs);
            }
        }
        return sum;
    }

    /**
     * The elements that stay are in blocks of shape that are matched with different blocks of
     * otherShape. best[set] is the most of them if only other blocks of the set are matched.
     */
    private int mostThatStay() {
        int sets = 1 << otherShape.blockCount;
        for (int set = 0; set < sets; set++) {
            best[set] = 0;
        }
        for (int b = 0; b < shape.blockCount; b++) {
            // Downwards, since the smaller sets must still leave out the block b.
            for (int set = sets - 1; set > 0; set--) {
                best[set] = Math.max(best[set], mostWithBlock(b, set));
            }
        }
        return best[sets - 1];
    }

    private int mostWithBlock(int b, int set) {
        int most = 0;
        for (int c = 0; c < otherShape.blockCount; c++) {
            if ((set >> c & 1) != 0) {
                int stay = Integer.bitCount(shape.members[b] & otherShape.members[c]);
                most = Math.max(most, best[set & ~(1 << c)] + stay);
            }
        }
        return most;
    }

    // ---- sets of pairs

    private static boolean isBelow(int a, int b) {
        return (a & ~b) == 0;
    }

    private static int withBits(int set, int bits, boolean on) {
        return on ? set | bits : set & ~bits;
    }

    /** The bit of a pair of elements, 0 if both are the same. */
    private static int pairBit(int i, int j) {
        if (i == j) {
            return 0;
        }
        int low = i < j ? i : j;
        int high = i < j ? j : i;
        return 1 << low * (2 * ELEMENTS - 1 - low) / 2 + high - low - 1;
    }

    private static int pairsWith(int elements, int e) {
        int pairs = 0;
        for (int f = 0; f < ELEMENTS; f++) {
            if ((elements >> f & 1) != 0) {
                pairs |= pairBit(e, f);
            }
        }
        return pairs;
    }

    private static int allPairs(int n) {
        int pairs = 0;
        for (int p = 0; p < PAIRS; p++) {
            if (GREATER[p] < n) {
                pairs |= 1 << p;
            }
        }
        return pairs;
    }

    private static int firstPair(int pairs) {
        for (int p = 0; p < PAIRS; p++) {
            if ((pairs >> p & 1) != 0) {
                return 10 * SMALLER[p] + GREATER[p];
            }
        }
        return NONE;
    }

    private static int complementOf(int pairs, int n) {
        int result = 0;
        for (int p = 0; p < PAIRS; p++) {
            if (GREATER[p] < n && !isSplit(pairs, SMALLER[p], GREATER[p])) {
                result |= 1 << p;
            }
        }
        return result;
    }

    /** Whether some block has elements both among low + 1 to high and elsewhere. */
    private static boolean isSplit(int pairs, int low, int high) {
        for (int p = 0; p < PAIRS; p++) {
            boolean smallerWithin = low < SMALLER[p] && SMALLER[p] <= high;
            boolean greaterWithin = low < GREATER[p] && GREATER[p] <= high;
            if ((pairs >> p & 1) != 0 && smallerWithin != greaterWithin) {
                return true;
            }
        }
        return false;
    }

    private static long power(int x, int exponent) {
        long product = 1;
        for (int i = 0; i < exponent; i++) {
            product *= x;
        }
        return product;
    }

    /** All that undo() brings back: the ground set, the registers and the restrictions. */
    private static final class State {
        final int[] registers = new int[REGISTERS];
        int n;
        int sizes;
        int numbers;
        int apartPairs;
        int togetherPairs;
        boolean noncrossingOnly;

        void reset(int elements) {
            for (int r = 0; r < REGISTERS; r++) {
                registers[r] = VACANT;
            }
            n = elements;
            sizes = ALL_ALLOWED;
            numbers = ALL_ALLOWED;
            apartPairs = 0;
            togetherPairs = 0;
            noncrossingOnly = false;
        }

        void takeFrom(State other) {
            for (int r = 0; r < REGISTERS; r++) {
                registers[r] = other.registers[r];
            }
            n = other.n;
            sizes = other.sizes;
            numbers = other.numbers;
            apartPairs = other.apartPairs;
            togetherPairs = other.togetherPairs;
            noncrossingOnly = other.noncrossingOnly;
        }

        int filledRegisters() {
            int filled = 0;
            for (int r = 0; r < REGISTERS; r++) {
                if (registers[r] != VACANT) {
                    filled++;
                }
            }
            return filled;
        }

        /** The smallest reason against a partition, 0 if it is admitted. */
        int reason(int pairs, int sizeSet, int blockCount, boolean crossing) {
            if ((sizeSet & ~sizes) != 0) {
                return 1;
            }
            if ((numbers >> blockCount & 1) == 0) {
                return 2;
            }
            if ((pairs & apartPairs) != 0) {
                return 3;
            }
            if ((togetherPairs & ~pairs) != 0) {
                return 4;
            }
            return noncrossingOnly && crossing ? 5 : 0;
        }
    }

    /** The latest states, in a ring: place is where the next one goes. */
    private static final class History {
        final State[] states = new State[REMEMBERED];
        int place;
        int remembered;

        History() {
            for (int i = 0; i < REMEMBERED; i++) {
                states[i] = new State();
            }
        }

        void remember(State state) {
            states[place].takeFrom(state);
            place = place + 1 < REMEMBERED ? place + 1 : 0;
            remembered = Math.min(remembered + 1, REMEMBERED);
        }

        boolean restore(State state) {
            if (remembered == 0) {
                return false;
            }
            place = place > 0 ? place - 1 : REMEMBERED - 1;
            remembered--;
            state.takeFrom(states[place]);
            return true;
        }
    }

    /** The text buffer. */
    private static final class Text {
        final int[] bytes = new int[TEXT_BYTES];
        int length;

        boolean append(int c) {
            if (length >= TEXT_BYTES) {
                return false;
            }
            bytes[length] = c;
            length++;
            return true;
        }

        /** Returns the pairs of the partition, or -10 minus the fault position. */
        int parse(int n) {
            int pairs = 0;
            int seen = 0;
            int block = 0;
            for (int i = 0; i < length; i++) {
                int e = bytes[i] - '0';
                if (e >= 0 && e < n && (seen >> e & 1) == 0) {
                    pairs |= pairsWith(block, e);
                    block |= 1 << e;
                    seen |= 1 << e;
                } else if (bytes[i] == '/' && block != 0) {
                    block = 0;
                } else {
                    return TEXT_FAULT - i;
                }
            }
            boolean whole = block != 0 && seen == (1 << n) - 1;
            return whole ? pairs : TEXT_FAULT - length;
        }
    }

    /** A partition spelled out: the block of each element, and the elements of each block. */
    private static final class Shape {
        final int[] labels = new int[ELEMENTS];
        final int[] members = new int[ELEMENTS];
        int n;
        int blockCount;

        void spell(int pairs, int elements) {
            n = Math.min(elements, ELEMENTS);
            blockCount = 0;
            for (int e = 0; e < n; e++) {
                int label = labelOfPartner(pairs, e);
                if (label == blockCount) {
                    members[label] = 0;
                    blockCount++;
                }
                labels[e] = label;
                members[label] |= 1 << e;
            }
        }

        /** The block of the smaller elements that e is in, or a new one if there is none. */
        int labelOfPartner(int pairs, int e) {
            for (int f = 0; f < e; f++) {
                if ((pairs & pairBit(f, e)) != 0) {
                    return labels[f];
                }
            }
            return blockCount;
        }

        /** The growth string as a number, so that numbers are ordered as the strings are. */
        int growthNumber() {
            int number = 0;
            for (int e = 0; e < n; e++) {
                number = number * ELEMENTS + labels[e];
            }
            return number;
        }

        int sizeSet() {
            int set = 0;
            for (int b = 0; b < blockCount; b++) {
                set |= 1 << Integer.bitCount(members[b]);
            }
            return set;
        }

        int typeNumber() {
            int sum = 0;
            for (int b = 0; b < blockCount; b++) {
                sum += 1 << 3 * (Integer.bitCount(members[b]) - 1);
            }
            return sum;
        }

        int firstBlockNotIn(int sizes) {
            for (int b = 0; b < blockCount; b++) {
                if ((sizes >> Integer.bitCount(members[b]) & 1) == 0) {
                    return b;
                }
            }
            return NONE;
        }

        int crossingCount() {
            int crossing = 0;
            for (int p = 0; p < blockCount; p++) {
                for (int q = p + 1; q < blockCount; q++) {
                    if (areCrossing(members[p], members[q])) {
                        crossing++;
                    }
                }
            }
            return crossing;
        }

        int firstCrossing() {
            for (int p = 0; p < blockCount; p++) {
                for (int q = p + 1; q < blockCount; q++) {
                    if (areCrossing(members[p], members[q])) {
                        return 10 * p + q;
                    }
                }
            }
            return NONE;
        }

        /** Two blocks cross if, in ascending order, their elements change sides often enough. */
        static boolean areCrossing(int one, int other) {
            int runs = 0;
            int side = 0;
            for (int e = 0; e < ELEMENTS; e++) {
                int newSide = (one >> e & 1) != 0 ? 1 : (other >> e & 1) != 0 ? 2 : side;
                if (newSide != side) {
                    side = newSide;
                    runs++;
                }
            }
            return runs >= 4;
        }
    }

    /** All partitions of the ground set, in the order of their growth strings. */
    private static final class Catalog {
        final int[] pairs = new int[PARTITIONS];
        final int[] growthNumbers = new int[PARTITIONS];
        final int[] sizeSets = new int[PARTITIONS];
        final int[] blockCounts = new int[PARTITIONS];
        final boolean[] crossing = new boolean[PARTITIONS];
        final int[] growth = new int[ELEMENTS];
        final Shape shape = new Shape();
        int n;
        int size;

        void fill(int elements) {
            if (n == elements) {
                return;
            }
            n = Math.min(elements, ELEMENTS);
            for (int e = 0; e < ELEMENTS; e++) {
                growth[e] = 0;
            }
            boolean more = true;
            for (int i = 0; i < PARTITIONS && more; i++) {
                enter(i);
                size = i + 1;
                more = advance();
            }
        }

        void enter(int i) {
            pairs[i] = pairsOfGrowth();
            shape.spell(pairs[i], n);
            growthNumbers[i] = shape.growthNumber();
            sizeSets[i] = shape.sizeSet();
            blockCounts[i] = shape.blockCount;
            crossing[i] = shape.firstCrossing() != NONE;
        }

        int pairsOfGrowth() {
            int all = 0;
            for (int p = 0; p < PAIRS; p++) {
                if (GREATER[p] < n && growth[SMALLER[p]] == growth[GREATER[p]]) {
                    all |= 1 << p;
                }
            }
            return all;
        }

        /** Goes to the next growth string; returns false if it was the last one. */
        boolean advance() {
            for (int e = n - 1; e > 0; e--) {
                if (growth[e] <= greatestBefore(e)) {
                    growth[e]++;
                    return true;
                }
                growth[e] = 0;
            }
            return false;
        }

        int greatestBefore(int e) {
            int greatest = 0;
            for (int f = 0; f < e; f++) {
                greatest = Math.max(greatest, growth[f]);
            }
            return greatest;
        }

        /**
         * The lowest partition with these pairs. All with these pairs are above it, and a growth
         * string becomes smaller when blocks are united: so it is the last of them.
         */
        int closure(int need) {
            for (int i = size - 1; i >= 0; i--) {
                if (isBelow(need, pairs[i])) {
                    return pairs[i];
                }
            }
            return allPairs(n);
        }
    }

    /** The admitted partitions, each at its index. What is strictly below another is behind it. */
    private static final class Roster {
        final int[] pairs = new int[PARTITIONS];
        final int[] growthNumbers = new int[PARTITIONS];
        final int[] blockCounts = new int[PARTITIONS];
        final int[] byNumber = new int[ELEMENTS + 1];
        final int[] nearest = new int[PARTITIONS];
        int size;
        int nearestCount;

        void select(Catalog catalog, State state) {
            size = 0;
            for (int k = 0; k <= ELEMENTS; k++) {
                byNumber[k] = 0;
            }
            for (int i = 0; i < catalog.size; i++) {
                int blockCount = catalog.blockCounts[i];
                int reason = state.reason(catalog.pairs[i], catalog.sizeSets[i], blockCount,
                        catalog.crossing[i]);
                if (reason == 0) {
                    pairs[size] = catalog.pairs[i];
                    growthNumbers[size] = catalog.growthNumbers[i];
                    blockCounts[size] = blockCount;
                    byNumber[blockCount]++;
                    size++;
                }
            }
        }

        boolean has(int k) {
            return k >= 0 && k < size;
        }

        int find(int wanted) {
            for (int k = 0; k < size; k++) {
                if (pairs[k] == wanted) {
                    return k;
                }
            }
            return NONE;
        }

        int firstBehind(int growthNumber) {
            for (int k = 0; k < size; k++) {
                if (growthNumbers[k] > growthNumber) {
                    return k;
                }
            }
            return NONE;
        }

        int lastBefore(int growthNumber) {
            for (int k = size - 1; k >= 0; k--) {
                if (growthNumbers[k] < growthNumber) {
                    return k;
                }
            }
            return NONE;
        }

        /** Finds the lowest partitions above the limit, or the highest below it, but for except. */
        void findNearest(int limit, boolean down, int except) {
            nearestCount = 0;
            for (int i = 0; i < size; i++) {
                // From the limit away, so that the nearest ones come before those behind them.
                int candidate = pairs[down ? i : size - 1 - i];
                boolean isBound = down ? isBelow(candidate, limit) : isBelow(limit, candidate);
                if (isBound && candidate != except && !isBehindNearest(candidate, down)) {
                    nearest[nearestCount] = candidate;
                    nearestCount++;
                }
            }
        }

        boolean isBehindNearest(int candidate, boolean down) {
            for (int i = 0; i < nearestCount; i++) {
                if (down ? isBelow(candidate, nearest[i]) : isBelow(nearest[i], candidate)) {
                    return true;
                }
            }
            return false;
        }
    }

    /**
     * The admitted partitions of an interval, each behind all that are strictly below it, and a
     * value for each. If both ends are admitted, the lower is the first and the upper the last.
     */
    private static final class Span {
        final int[] pairs = new int[PARTITIONS];
        final int[] blockCounts = new int[PARTITIONS];
        final long[] values = new long[PARTITIONS];
        final int[] covered = new int[PARTITIONS];
        int size;

        void select(Roster roster, int low, int high) {
            size = 0;
            for (int k = roster.size - 1; k >= 0; k--) {
                int candidate = roster.pairs[k];
                if (isBelow(low, candidate) && isBelow(candidate, high)) {
                    pairs[size] = candidate;
                    blockCounts[size] = roster.blockCounts[k];
                    size++;
                }
            }
        }

        long lastValue() {
            return size == 0 ? 0 : values[size - 1];
        }

        /** Gives the first partition 1 and the others 0. */
        void startAtFirst() {
            for (int z = 0; z < size; z++) {
                values[z] = z == 0 ? 1 : 0;
            }
        }

        void putMoebius() {
            startAtFirst();
            for (int z = 1; z < size; z++) {
                values[z] = -sumStrictlyBelow(z);
            }
        }

        void putChains(int steps) {
            startAtFirst();
            for (int step = 0; step < steps; step++) {
                // From the top, so that the sums take the values of the step before.
                for (int z = size - 1; z >= 0; z--) {
                    values[z] = sumStrictlyBelow(z);
                }
            }
        }

        void putMaximalChains() {
            startAtFirst();
            for (int z = 1; z < size; z++) {
                values[z] = sumCovered(z);
            }
        }

        void putHeights() {
            for (int z = 0; z < size; z++) {
                long most = 0;
                for (int y = 0; y < z; y++) {
                    if (isBelow(pairs[y], pairs[z])) {
                        most = Math.max(most, values[y] + 1);
                    }
                }
                values[z] = most;
            }
        }

        long sumStrictlyBelow(int z) {
            long sum = 0;
            for (int y = 0; y < z; y++) {
                if (isBelow(pairs[y], pairs[z])) {
                    sum += values[y];
                }
            }
            return sum;
        }

        /** From z downwards, those are covered that are below none that is covered. */
        long sumCovered(int z) {
            long sum = 0;
            int coveredCount = 0;
            for (int y = z - 1; y >= 0; y--) {
                if (isBelow(pairs[y], pairs[z]) && !isBelowCovered(pairs[y], coveredCount)) {
                    covered[coveredCount] = pairs[y];
                    coveredCount++;
                    sum += values[y];
                }
            }
            return sum;
        }

        boolean isBelowCovered(int candidate, int coveredCount) {
            for (int i = 0; i < coveredCount; i++) {
                if (isBelow(candidate, covered[i])) {
                    return true;
                }
            }
            return false;
        }
    }
}

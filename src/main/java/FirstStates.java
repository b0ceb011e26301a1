/**
 * Circuits that are begun well: stores of which nobody knows what they hold, lines that reset them,
 * gates between; which rows of stores can be after each tick, and what is sure in all of them.
 */
public final class FirstStates {
    public static final int UNKNOWN = -1, OUTSIDE = -2, STATE = -3, FULL = -4, NONE = -9;

    private static final int MAX_NODES = 32;
    private static final int MAX_INPUTS = 4;
    private static final int MAX_STORES = 6;
    private static final int MAX_ROWS = 64;
    private static final int MAX_TICKS = 64;
    private static final int LINES = 4;
    private static final int ALL_LINES = 15;
    private static final int MAX_WAIT = 20;

    private static final int SORT_INPUT = 0;
    private static final int SORT_FIXED = 1;
    private static final int SORT_GATE = 2;
    private static final int SORT_STORE = 3;

    private static final int KIND_NOT = 0;
    private static final int KIND_AND = 1;
    private static final int KIND_OR = 2;
    private static final int KIND_XOR = 3;
    private static final int KIND_CHOICE = 4;

    /** An input that may be 0 or 1, and what parts cannot tell, bear the same number. */
    private static final int OPEN = 2;

    private static final int CROSSING_FACTOR = 100;

    private final Circuit circuit;
    private final Walk walk;
    private final Parts parts;
    private final Needs needs;
    /** The possible rows: bit r stands for row r. */
    private long rows;
    private int ticks;
    /** The lines that are on: bit l stands for line l. */
    private int linesOn;

    public FirstStates() {
        circuit = new Circuit();
        walk = new Walk(circuit);
        parts = new Parts(circuit);
        needs = new Needs();
        rows = 1L;
        ticks = 0;
        linesOn = 0;
    }

    // ---- the circuit

    public int input() {
        if (circuit.inputs >= MAX_INPUTS || circuit.isFull()) {
            return FULL;
        }
        int node = circuit.addInput();
        beginAgain();
        return node;
    }

    public int fixed(int v) {
        if (!isBit(v)) {
            return OUTSIDE;
        }
        if (circuit.isFull()) {
            return FULL;
        }
        int node = circuit.addFixed(v);
        beginAgain();
        return node;
    }

    public int gate(int kind, int a, int b, int c) {
        if (kind < KIND_NOT || kind > KIND_CHOICE) {
            return OUTSIDE;
        }
        boolean hasSecond = kind != KIND_NOT;
        boolean hasThird = kind == KIND_CHOICE;
        if (!circuit.isNode(a) || hasSecond && !circuit.isNode(b) || hasThird && !circuit.isNode(c)) {
            return UNKNOWN;
        }
        if (circuit.isFull()) {
            return FULL;
        }
        int node = circuit.addGate(kind, a, hasSecond ? b : a, hasThird ? c : a);
        beginAgain();
        return node;
    }

    public int store(int line, int begin) {
        if (line != NONE && !isLine(line)) {
            return UNKNOWN;
        }
        if (!isBit(begin)) {
            return OUTSIDE;
        }
        if (circuit.stores >= MAX_STORES || circuit.isFull()) {
            return FULL;
        }
        int node = circuit.addStore(line, begin);
        beginAgain();
        return node;
    }

    public int reads(int store, int node) {
        if (!circuit.isNode(store) || !circuit.isNode(node)) {
            return UNKNOWN;
        }
        if (!circuit.isSort(store, SORT_STORE)) {
            return STATE;
        }
        int number = circuit.storeNumbers[store];
        int was = circuit.storeReads[number];
        if (was != node) {
            circuit.storeReads[number] = node;
            beginAgain();
        }
        return was;
    }

    public int about(int node, int what) {
        if (!circuit.isNode(node)) {
            return UNKNOWN;
        }
        if (what < 0 || what > 4) {
            return OUTSIDE;
        }
        if (what == 0) {
            return circuit.sorts[node];
        }
        if (what == 1) {
            return circuit.isSort(node, SORT_GATE) ? circuit.kinds[node] : NONE;
        }
        return circuit.isSort(node, SORT_STORE) ? circuit.aboutStore(circuit.storeNumbers[node], what) : NONE;
    }

    // ---- ticks

    public int line(int line, boolean on) {
        if (!isLine(line)) {
            return UNKNOWN;
        }
        int bit = 1 << line;
        int was = (linesOn & bit) != 0 ? 1 : 0;
        linesOn = on ? linesOn | bit : linesOn & ~bit;
        return was;
    }

    public int set(int node, int v) {
        if (!circuit.isNode(node)) {
            return UNKNOWN;
        }
        if (!circuit.isSort(node, SORT_INPUT)) {
            return STATE;
        }
        if (!isBit(v) && v != OPEN) {
            return OUTSIDE;
        }
        int was = circuit.values[node];
        circuit.values[node] = v;
        return was;
    }

    public int tick(int n) {
        if (!isTickCount(n)) {
            return OUTSIDE;
        }
        int resets = circuit.storesOf(linesOn);
        walk.prepare(false);
        for (int i = 0; i < n; i++) {
            rows = walk.after(rows, resets);
            parts.pass(resets);
        }
        ticks += n;
        return Long.bitCount(rows);
    }

    public int fresh() {
        int were = ticks;
        beginAgain();
        return were;
    }

    public int possible() {
        return Long.bitCount(rows);
    }

    public int row(int i) {
        if (i < 0) {
            return NONE;
        }
        int left = i;
        for (int row = 0; row < MAX_ROWS; row++) {
            if ((rows >>> row & 1L) != 0L) {
                if (left == 0) {
                    return row;
                }
                left--;
            }
        }
        return NONE;
    }

    public int sure(int node) {
        return circuit.isNode(node) ? walk.surely(node, rows) : UNKNOWN;
    }

    public int told(int node) {
        if (!circuit.isNode(node)) {
            return UNKNOWN;
        }
        parts.tellAll();
        return parts.tells[node];
    }

    public int known(boolean byParts) {
        return byParts ? parts.knownStores() : walk.sureStores(rows);
    }

    public int settles() {
        walk.prepare(false);
        return walk.ticksTillOne(rows, circuit.storesOf(linesOn));
    }

    public int next(int row) {
        if (row < 0 || row >= circuit.rowCount()) {
            return OUTSIDE;
        }
        walk.evaluate(0, false);
        int resets = circuit.storesOf(linesOn);
        return walk.led(row) & ~resets | circuit.beginBits() & resets;
    }

    // ---- what leans on what

    public int depends(int store, int other) {
        if (!circuit.isNode(store) || !circuit.isNode(other)) {
            return UNKNOWN;
        }
        if (!circuit.isSort(store, SORT_STORE) || !circuit.isSort(other, SORT_STORE)) {
            return STATE;
        }
        circuit.traceSources();
        return circuit.leans(circuit.storeNumbers[store], circuit.storeNumbers[other]) ? 1 : 0;
    }

    public int crossings() {
        circuit.traceSources();
        int found = 0;
        for (int first = 0; first < circuit.stores; first++) {
            for (int second = 0; second < circuit.stores; second++) {
                if (circuit.crosses(first, second)) {
                    found++;
                }
            }
        }
        return found;
    }

    public int crossing(int i) {
        if (i < 0) {
            return NONE;
        }
        circuit.traceSources();
        int left = i;
        for (int first = 0; first < circuit.stores; first++) {
            for (int second = 0; second < circuit.stores; second++) {
                if (circuit.crosses(first, second)) {
                    if (left == 0) {
                        return CROSSING_FACTOR * circuit.storeNodes[first] + circuit.storeNodes[second];
                    }
                    left--;
                }
            }
        }
        return NONE;
    }

    public int alone(int line) {
        if (!isLine(line)) {
            return UNKNOWN;
        }
        walk.prepare(true);
        return walk.ticksTillOne(walk.allRows(), circuit.storesOf(1 << line));
    }

    public int mend(int n) {
        if (!isTickCount(n)) {
            return OUTSIDE;
        }
        walk.prepare(false);
        int lined = circuit.storesOf(ALL_LINES);
        for (int size = 0; size <= circuit.stores; size++) {
            for (int more = 0; more < circuit.rowCount(); more++) {
                if ((more & lined) == 0 && Integer.bitCount(more) == size && walk.leavesOne(n, lined | more)) {
                    return more;
                }
            }
        }
        return NONE;
    }

    // ---- lines let go

    public int need(int a, int b, int w) {
        if (!isLine(a) || !isLine(b)) {
            return UNKNOWN;
        }
        if (w != NONE && (w < 0 || w > MAX_WAIT)) {
            return OUTSIDE;
        }
        return needs.change(a, b, w);
    }

    public int go(int line) {
        if (!isLine(line)) {
            return UNKNOWN;
        }
        needs.reckon();
        return needs.times[line];
    }

    public int gone(int tick) {
        if (tick < 0) {
            return OUTSIDE;
        }
        needs.reckon();
        int found = 0;
        for (int line = 0; line < LINES; line++) {
            if (needs.times[line] != NONE && needs.times[line] <= tick) {
                found++;
            }
        }
        return found;
    }

    public int count(int what) {
        switch (what) {
            case 0:
                return circuit.nodes;
            case 1:
                return circuit.stores;
            case 2:
                return circuit.inputs;
            case 3:
                return ticks;
            case 4:
                return Integer.bitCount(linesOn);
            case 5:
                return needs.standing();
            default:
                return OUTSIDE;
        }
    }

    private void beginAgain() {
        rows = walk.allRows();
        ticks = 0;
        parts.forget();
    }

    private static boolean isBit(int v) {
        return v == 0 || v == 1;
    }

    private static boolean isLine(int line) {
        return line >= 0 && line < LINES;
    }

    private static boolean isTickCount(int n) {
        return n >= 1 && n <= MAX_TICKS;
    }

    /** The nodes as they came. Stores have numbers of their own: their bits in a row. */
    private static final class Circuit {
        int nodes;
        int inputs;
        int stores;
        final int[] sorts = new int[MAX_NODES];
        final int[] kinds = new int[MAX_NODES];
        final int[] firsts = new int[MAX_NODES];
        final int[] seconds = new int[MAX_NODES];
        final int[] thirds = new int[MAX_NODES];
        /** What an input is set to, and what a fixed node is. */
        final int[] values = new int[MAX_NODES];
        final int[] storeNumbers = new int[MAX_NODES];
        final int[] storeNodes = new int[MAX_STORES];
        final int[] storeLines = new int[MAX_STORES];
        final int[] storeBegins = new int[MAX_STORES];
        final int[] storeReads = new int[MAX_STORES];
        /** For each node the stores (as bits of a row) to which a way of gates leads back. */
        final int[] sources = new int[MAX_NODES];

        boolean isFull() {
            return nodes >= MAX_NODES;
        }

        boolean isNode(int node) {
            return node >= 0 && node < nodes;
        }

        boolean isSort(int node, int sort) {
            return isNode(node) && sorts[node] == sort;
        }

        int rowCount() {
            return 1 << stores;
        }

        int addInput() {
            int node = addNode(SORT_INPUT);
            values[node] = OPEN;
            inputs++;
            return node;
        }

        int addFixed(int v) {
            int node = addNode(SORT_FIXED);
            values[node] = v;
            return node;
        }

        int addGate(int kind, int a, int b, int c) {
            int node = addNode(SORT_GATE);
            kinds[node] = kind;
            firsts[node] = a;
            seconds[node] = b;
            thirds[node] = c;
            return node;
        }

        int addStore(int line, int begin) {
            int node = addNode(SORT_STORE);
            storeNumbers[node] = stores;
            storeNodes[stores] = node;
            storeLines[stores] = line;
            storeBegins[stores] = begin;
            storeReads[stores] = node;
            stores++;
            return node;
        }

        private int addNode(int sort) {
            int node = nodes;
            sorts[node] = sort;
            nodes++;
            return node;
        }

        int aboutStore(int number, int what) {
            switch (what) {
                case 2:
                    return storeLines[number];
                case 3:
                    return storeBegins[number];
                default:
                    return storeReads[number];
            }
        }

        /** The stores, as bits of a row, that some of these lines reset. */
        int storesOf(int lines) {
            int found = 0;
            for (int i = 0; i < stores; i++) {
                if (storeLines[i] != NONE && (lines >> storeLines[i] & 1) != 0) {
                    found |= 1 << i;
                }
            }
            return found;
        }

        int beginBits() {
            int bits = 0;
            for (int i = 0; i < stores; i++) {
                bits |= storeBegins[i] << i;
            }
            return bits;
        }

        int openInputs(boolean allOpen) {
            int found = 0;
            for (int node = 0; node < nodes; node++) {
                if (sorts[node] == SORT_INPUT && (allOpen || values[node] == OPEN)) {
                    found++;
                }
            }
            return found;
        }

        /** Gates look only at nodes ahead of them, so one pass in their order tells all. */
        void traceSources() {
            for (int node = 0; node < nodes; node++) {
                if (sorts[node] == SORT_STORE) {
                    sources[node] = 1 << storeNumbers[node];
                } else if (sorts[node] == SORT_GATE) {
                    sources[node] = sources[firsts[node]] | sources[seconds[node]] | sources[thirds[node]];
                } else {
                    sources[node] = 0;
                }
            }
        }

        boolean leans(int number, int other) {
            return (sources[storeReads[number]] >> other & 1) != 0;
        }

        boolean crosses(int first, int second) {
            return storeLines[first] != storeLines[second] && leans(second, first);
        }
    }

    /** Where rows lead. A set of rows is a long: bit r stands for row r. */
    private static final class Walk {
        /** For each store the rows in which it holds 1. */
        private static final long[] HOLDING = {
            0xAAAAAAAAAAAAAAAAL, 0xCCCCCCCCCCCCCCCCL, 0xF0F0F0F0F0F0F0F0L,
            0xFF00FF00FF00FF00L, 0xFFFF0000FFFF0000L, 0xFFFFFFFF00000000L
        };

        private final Circuit circuit;
        /** For each node the rows in which it is 1. */
        private final long[] ones = new long[MAX_NODES];
        /** For each row the rows to which it leads while no line is on. */
        private final long[] leads = new long[MAX_ROWS];

        Walk(Circuit circuit) {
            this.circuit = circuit;
        }

        long allRows() {
            int count = circuit.rowCount();
            // A shift by 64 would shift by nothing.
            return count >= MAX_ROWS ? -1L : (1L << count) - 1L;
        }

        void prepare(boolean allOpen) {
            int count = circuit.rowCount();
            for (int row = 0; row < count; row++) {
                leads[row] = 0L;
            }
            int ways = 1 << circuit.openInputs(allOpen);
            for (int way = 0; way < ways; way++) {
                evaluate(way, allOpen);
                for (int row = 0; row < count; row++) {
                    leads[row] |= 1L << led(row);
                }
            }
        }

        /** The bits of way are, in their order, what the open inputs are. */
        void evaluate(int way, boolean allOpen) {
            int left = way;
            for (int node = 0; node < circuit.nodes; node++) {
                switch (circuit.sorts[node]) {
                    case SORT_INPUT:
                        if (allOpen || circuit.values[node] == OPEN) {
                            ones[node] = everywhere(left & 1);
                            left >>= 1;
                        } else {
                            ones[node] = everywhere(circuit.values[node]);
                        }
                        break;
                    case SORT_FIXED:
                        ones[node] = everywhere(circuit.values[node]);
                        break;
                    case SORT_GATE:
                        ones[node] = gateOnes(node);
                        break;
                    default:
                        ones[node] = HOLDING[circuit.storeNumbers[node]];
                        break;
                }
            }
        }

        private static long everywhere(int v) {
            return v == 1 ? -1L : 0L;
        }

        private long gateOnes(int node) {
            long a = ones[circuit.firsts[node]];
            long b = ones[circuit.seconds[node]];
            long c = ones[circuit.thirds[node]];
            switch (circuit.kinds[node]) {
                case KIND_NOT:
                    return ~a;
                case KIND_AND:
                    return a & b;
                case KIND_OR:
                    return a | b;
                case KIND_XOR:
                    return a ^ b;
                default:
                    return a & b | ~a & c;
            }
        }

        /** The row to which a row leads while no line is on, by what was evaluated last. */
        int led(int row) {
            int to = 0;
            for (int i = 0; i < circuit.stores; i++) {
                if ((ones[circuit.storeReads[i]] >>> row & 1L) != 0L) {
                    to |= 1 << i;
                }
            }
            return to;
        }

        /** The rows one tick behind these, by what was prepared last; resets are stores as bits of a row. */
        long after(long from, int resets) {
            long reached = 0L;
            for (int row = 0; row < circuit.rowCount(); row++) {
                if ((from >>> row & 1L) != 0L) {
                    reached |= leads[row];
                }
            }
            for (int i = 0; i < circuit.stores; i++) {
                if ((resets >> i & 1) != 0) {
                    reached = begun(reached, i);
                }
            }
            return reached;
        }

        /** Rows that differ in one store alone lie 1, 2, 4, .. apart. */
        private long begun(long from, int number) {
            int apart = 1 << number;
            if (circuit.storeBegins[number] == 1) {
                return (from | from << apart) & HOLDING[number];
            }
            return (from | from >>> apart) & ~HOLDING[number];
        }

        int ticksTillOne(long from, int resets) {
            long now = from;
            for (int tick = 0; tick <= MAX_TICKS; tick++) {
                if (Long.bitCount(now) == 1) {
                    return tick;
                }
                now = after(now, resets);
            }
            return NONE;
        }

        /** Begun with all rows, the set only shrinks: once it stays, it stays for ever. */
        boolean leavesOne(int n, int resets) {
            long now = allRows();
            for (int tick = 0; tick < n; tick++) {
                long then = after(now, resets);
                if (then == now) {
                    break;
                }
                now = then;
            }
            return Long.bitCount(now) == 1;
        }

        int surely(int node, long within) {
            boolean canBeOne = false;
            boolean canBeZero = false;
            int ways = 1 << circuit.openInputs(false);
            for (int way = 0; way < ways; way++) {
                evaluate(way, false);
                canBeOne |= (ones[node] & within) != 0L;
                canBeZero |= (~ones[node] & within) != 0L;
            }
            if (canBeOne && canBeZero) {
                return 2;
            }
            return canBeOne ? 1 : 0;
        }

        int sureStores(long within) {
            int found = 0;
            for (int i = 0; i < circuit.stores; i++) {
                long holding = HOLDING[i] & within;
                if (holding == 0L || holding == within) {
                    found++;
                }
            }
            return found;
        }
    }

    /** What is told by parts: 0, 1, or OPEN where it is not known. */
    private static final class Parts {
        private final Circuit circuit;
        final int[] tells = new int[MAX_NODES];
        private final int[] holds = new int[MAX_STORES];

        Parts(Circuit circuit) {
            this.circuit = circuit;
        }

        void forget() {
            for (int i = 0; i < MAX_STORES; i++) {
                holds[i] = OPEN;
            }
        }

        void tellAll() {
            for (int node = 0; node < circuit.nodes; node++) {
                switch (circuit.sorts[node]) {
                    case SORT_GATE:
                        tells[node] = gateTells(node);
                        break;
                    case SORT_STORE:
                        tells[node] = holds[circuit.storeNumbers[node]];
                        break;
                    default:
                        tells[node] = circuit.values[node];
                        break;
                }
            }
        }

        /** Of what is left once 0 (of AND) or 1 (of OR) has decided, the greater is OPEN if one is. */
        private int gateTells(int node) {
            int a = tells[circuit.firsts[node]];
            int b = tells[circuit.seconds[node]];
            int c = tells[circuit.thirds[node]];
            switch (circuit.kinds[node]) {
                case KIND_NOT:
                    return a == OPEN ? OPEN : 1 - a;
                case KIND_AND:
                    return a == 0 || b == 0 ? 0 : Math.max(a, b);
                case KIND_OR:
                    return a == 1 || b == 1 ? 1 : Math.max(a, b);
                case KIND_XOR:
                    return a == OPEN || b == OPEN ? OPEN : a ^ b;
                default:
                    return choiceTells(a, b, c);
            }
        }

        private static int choiceTells(int a, int b, int c) {
            if (a == OPEN) {
                return b == c ? b : OPEN;
            }
            return a == 1 ? b : c;
        }

        /** One tick; resets are stores as bits of a row. */
        void pass(int resets) {
            tellAll();
            for (int i = 0; i < circuit.stores; i++) {
                boolean reset = (resets >> i & 1) != 0;
                holds[i] = reset ? circuit.storeBegins[i] : tells[circuit.storeReads[i]];
            }
        }

        int knownStores() {
            int found = 0;
            for (int i = 0; i < circuit.stores; i++) {
                if (holds[i] != OPEN) {
                    found++;
                }
            }
            return found;
        }
    }

    /** Which line waits for which, and when each is let go. */
    private static final class Needs {
        /** At LINES * a + b the ticks by which line a waits behind line b; NONE: it does not. */
        private final int[] waits = new int[LINES * LINES];
        /** When each line is let go; NONE: never. */
        final int[] times = new int[LINES];

        Needs() {
            for (int i = 0; i < LINES * LINES; i++) {
                waits[i] = NONE;
            }
        }

        int change(int a, int b, int w) {
            int was = waits[LINES * a + b];
            waits[LINES * a + b] = w;
            return was;
        }

        int standing() {
            int found = 0;
            for (int i = 0; i < LINES * LINES; i++) {
                if (waits[i] != NONE) {
                    found++;
                }
            }
            return found;
        }

        /**
         * Without rings that cannot be met no chain of needs has more than LINES - 1 links, so after
         * LINES rounds only lines on such rings, or behind them, still grow.
         */
        void reckon() {
            for (int line = 0; line < LINES; line++) {
                times[line] = 0;
            }
            for (int round = 0; round < LINES; round++) {
                delayAll(false);
            }
            for (int round = 0; round < LINES; round++) {
                delayAll(true);
            }
        }

        /** Lets each line wait as its needs ask; if giveUp, one that would still wait longer is never let go. */
        private void delayAll(boolean giveUp) {
            for (int a = 0; a < LINES; a++) {
                for (int b = 0; b < LINES; b++) {
                    int wait = waits[LINES * a + b];
                    if (wait == NONE || times[a] == NONE) {
                        continue;
                    }
                    if (times[b] == NONE) {
                        times[a] = NONE;
                    } else if (times[b] + wait > times[a]) {
                        times[a] = giveUp ? NONE : times[b] + wait;
                    }
                }
            }
        }
    }
}

/** The sentences of the document's Terms, which bind every promise. */
final class TermsEdges {
    private static final int UNKNOWN = -1, OUTSIDE = -2, STATE = -3, FULL = -4, NONE = -9;

    private TermsEdges() {
    }

    private static void due(String call, long got, long want) {
        EdgeTests.due(call, got, want);
    }

    // ---- the object and its refusals

    @Holds(promise = 0, words = "An object is used for at most 512 calls after it has been made;"
            + " what later calls answer is free.")
    static void the512thCallIsStillAnswered() {
        FirstStates x = new FirstStates();
        x.store(NONE, 0);
        for (int call = 2; call < 512; call++) {
            x.tick(64);
        }
        due("count(3), the 512th call", x.count(3), 510 * 64);
    }

    @Holds(promise = 0, words = {
        "public static final int UNKNOWN = -1, OUTSIDE = -2, STATE = -3, FULL = -4, NONE = -9;", "NONE is -9."})
    static void constants() {
        due("UNKNOWN", FirstStates.UNKNOWN, -1);
        due("OUTSIDE", FirstStates.OUTSIDE, -2);
        due("STATE", FirstStates.STATE, -3);
        due("FULL", FirstStates.FULL, -4);
        due("NONE", FirstStates.NONE, -9);
        due("crossing(0), of none", new FirstStates().crossing(0), -9);
    }

    @Holds(promise = 0, words = "REFUSALS, of several the first that a call names:")
    static void ofSeveralRefusalsTheFirstNamed() {
        FirstStates x = Circuits.busy(4, 6, 32);
        due("fixed: OUTSIDE ahead of FULL", x.fixed(2), OUTSIDE);
        due("gate: OUTSIDE ahead of UNKNOWN and FULL", x.gate(5, 32, 32, 32), OUTSIDE);
        due("gate: UNKNOWN ahead of FULL", x.gate(0, 32, 0, 0), UNKNOWN);
        due("store: UNKNOWN ahead of OUTSIDE and FULL", x.store(4, 2), UNKNOWN);
        due("store: OUTSIDE ahead of FULL", x.store(0, 2), OUTSIDE);
        due("reads: UNKNOWN ahead of STATE", x.reads(0, 32), UNKNOWN);
        due("about: UNKNOWN ahead of OUTSIDE", x.about(32, 5), UNKNOWN);
        due("set: UNKNOWN ahead of OUTSIDE", x.set(32, 3), UNKNOWN);
        due("set: STATE ahead of OUTSIDE", x.set(4, 3), STATE);
        due("depends: UNKNOWN ahead of STATE", x.depends(0, 32), UNKNOWN);
        due("need: UNKNOWN ahead of OUTSIDE", x.need(0, 4, 21), UNKNOWN);
    }

    @Holds(promise = 0, words = "UNKNOWN (there is no such NODE, LINE)")
    static void noSuchNode() {
        FirstStates x = Circuits.ofEachSort();
        for (int node : new int[] {-1, 5, 31, 32, NONE, Integer.MIN_VALUE, Integer.MAX_VALUE}) {
            due("gate(1, " + node + ", 0, 0)", x.gate(1, node, 0, 0), UNKNOWN);
            due("gate(1, 0, " + node + ", 0)", x.gate(1, 0, node, 0), UNKNOWN);
            due("gate(4, 0, 0, " + node + ")", x.gate(4, 0, 0, node), UNKNOWN);
            due("reads(" + node + ", 0)", x.reads(node, 0), UNKNOWN);
            due("reads(3, " + node + ")", x.reads(3, node), UNKNOWN);
            due("about(" + node + ", 0)", x.about(node, 0), UNKNOWN);
            due("set(" + node + ", 0)", x.set(node, 0), UNKNOWN);
            due("sure(" + node + ")", x.sure(node), UNKNOWN);
            due("told(" + node + ")", x.told(node), UNKNOWN);
            due("depends(" + node + ", 3)", x.depends(node, 3), UNKNOWN);
            due("depends(3, " + node + ")", x.depends(3, node), UNKNOWN);
        }
    }

    @Holds(promise = 0, words = "UNKNOWN (there is no such NODE, LINE)")
    static void noSuchLine() {
        FirstStates x = Circuits.ofEachSort();
        for (int line : new int[] {-1, 4, 31, 32, 36, Integer.MIN_VALUE, Integer.MAX_VALUE}) {
            due("store(" + line + ", 0)", x.store(line, 0), UNKNOWN);
            due("line(" + line + ", true)", x.line(line, true), UNKNOWN);
            due("alone(" + line + ")", x.alone(line), UNKNOWN);
            due("need(" + line + ", 0, 0)", x.need(line, 0, 0), UNKNOWN);
            due("need(0, " + line + ", 0)", x.need(0, line, 0), UNKNOWN);
            due("go(" + line + ")", x.go(line), UNKNOWN);
        }
        due("NONE is a line of store alone: line", x.line(NONE, true), UNKNOWN);
        due("NONE is a line of store alone: alone", x.alone(NONE), UNKNOWN);
        due("NONE is a line of store alone: need a", x.need(NONE, 0, 0), UNKNOWN);
        due("NONE is a line of store alone: need b", x.need(0, NONE, 0), UNKNOWN);
        due("NONE is a line of store alone: go", x.go(NONE), UNKNOWN);
    }

    @Holds(promise = 0, words = "OUTSIDE (another number is not as told)")
    static void anotherNumberIsNotAsTold() {
        FirstStates x = Circuits.ofEachSort();
        for (int number : new int[] {Integer.MIN_VALUE, -100, -10, -8, -1}) {
            outside(x, number);
            due("gone(" + number + ")", x.gone(number), OUTSIDE);
        }
        for (int number : new int[] {65, 100, 256, 1 << 16, Integer.MAX_VALUE}) {
            outside(x, number);
        }
    }

    private static void outside(FirstStates x, int number) {
        due("fixed(" + number + ")", x.fixed(number), OUTSIDE);
        due("gate(" + number + ", 0, 0, 0)", x.gate(number, 0, 0, 0), OUTSIDE);
        due("store(0, " + number + ")", x.store(0, number), OUTSIDE);
        due("about(0, " + number + ")", x.about(0, number), OUTSIDE);
        due("set(0, " + number + ")", x.set(0, number), OUTSIDE);
        due("tick(" + number + ")", x.tick(number), OUTSIDE);
        due("next(" + number + ")", x.next(number), OUTSIDE);
        due("mend(" + number + ")", x.mend(number), OUTSIDE);
        due("need(0, 1, " + number + ")", x.need(0, 1, number), OUTSIDE);
        due("count(" + number + ")", x.count(number), OUTSIDE);
    }

    @Holds(promise = 0, words = "STATE (as told)")
    static void stateAsTold() {
        FirstStates x = Circuits.ofEachSort();
        due("reads of an input", x.reads(0, 3), STATE);
        due("set of a store", x.set(3, 0), STATE);
        due("depends of a gate", x.depends(2, 3), STATE);
        due("depends on a gate", x.depends(3, 2), STATE);
    }

    @Holds(promise = 0, words = "FULL.")
    static void fullOfNodes() {
        FirstStates x = Circuits.fixedNodes(32);
        due("input", x.input(), FULL);
        due("fixed", x.fixed(0), FULL);
        due("gate", x.gate(0, 0, 0, 0), FULL);
        due("store", x.store(0, 0), FULL);
    }

    // ---- 1: nodes

    @Holds(promise = 0, words = "NODES 0, 1, .. (32 at most), as they come:")
    static void nodesAreNumberedAsTheyCome() {
        FirstStates x = new FirstStates();
        due("a store", x.store(0, 0), 0);
        due("an input", x.input(), 1);
        due("a refused one has no number", x.fixed(2), OUTSIDE);
        due("a gate", x.gate(0, 0, 0, 0), 2);
        due("a fixed one", x.fixed(0), 3);
        due("a store", x.store(0, 0), 4);
        for (int node = 5; node < 31; node++) {
            due("a fixed one", x.fixed(1), node);
        }
        due("the 32nd", x.gate(1, 30, 29, 0), 31);
        due("the 33rd", x.fixed(0), FULL);
        due("count(0)", x.count(0), 32);
    }

    @Holds(promise = 0, words = "INPUTS (4 at most),")
    static void fourInputsAtMost() {
        FirstStates x = new FirstStates();
        for (int i = 0; i < 4; i++) {
            due("input", x.input(), i);
        }
        due("the fifth", x.input(), FULL);
        due("count(2)", x.count(2), 4);
    }

    @Holds(promise = 0, words = "FIXED ones (0 or 1),")
    static void fixedOnesAreZeroOrOne() {
        FirstStates x = new FirstStates();
        due("fixed(-1)", x.fixed(-1), OUTSIDE);
        due("fixed(0)", x.fixed(0), 0);
        due("fixed(1)", x.fixed(1), 1);
        due("fixed(2)", x.fixed(2), OUTSIDE);
        due("sure(0)", x.sure(0), 0);
        due("sure(1)", x.sure(1), 1);
    }

    @Holds(promise = 0, words = "GATES: 0 NOT a, 1 AND a b, 2 OR a b, 3 XOR a b, 4 CHOICE a b c"
            + " (b if a is 1, else c),")
    static void gatesOfEachKind() {
        FirstStates x = new FirstStates();
        for (int i = 0; i < 3; i++) {
            x.input();
        }
        for (int kind = 0; kind < 5; kind++) {
            x.gate(kind, 0, 1, 2);
        }
        // At bits c b a = 000, 001, .. 111, the first of them in the lowest place.
        int[] table = {0b01010101, 0b10001000, 0b11101110, 0b01100110, 0b11011000};
        for (int bits = 0; bits < 8; bits++) {
            for (int i = 0; i < 3; i++) {
                x.set(i, bits >> i & 1);
            }
            for (int kind = 0; kind < 5; kind++) {
                due("gate " + kind + " at " + bits, x.sure(3 + kind), table[kind] >> bits & 1);
            }
        }
    }

    @Holds(promise = 0, words = "of NODES ahead of it;")
    static void gatesLookAtNodesAheadOfThemAlone() {
        FirstStates x = new FirstStates();
        due("no node yet: itself", x.gate(0, 0, 0, 0), UNKNOWN);
        x.fixed(1);
        x.fixed(0);
        due("itself as a", x.gate(0, 2, 0, 0), UNKNOWN);
        due("itself as b", x.gate(1, 0, 2, 0), UNKNOWN);
        due("itself as c", x.gate(4, 0, 0, 2), UNKNOWN);
        due("the one just ahead, and the first", x.gate(4, 1, 1, 0), 2);
        due("sure", x.sure(2), 1);
    }

    // ---- 1: stores

    @Holds(promise = 0, words = "STORES (6 at most),")
    static void sixStoresAtMost() {
        FirstStates x = Circuits.freeStores(5);
        due("the sixth", x.store(NONE, 0), 5);
        due("the seventh", x.store(NONE, 0), FULL);
        due("count(1)", x.count(1), 6);
        due("possible", x.possible(), 64);
    }

    @Holds(promise = 0, words = "each with a LINE 0 .. 3 or none,")
    static void eachStoreHasALineOrNone() {
        FirstStates x = new FirstStates();
        due("line -1", x.store(-1, 0), UNKNOWN);
        due("line 0", x.store(0, 0), 0);
        due("line 3", x.store(3, 0), 1);
        due("none", x.store(NONE, 0), 2);
        due("line 4", x.store(4, 0), UNKNOWN);
        for (int line = 0; line < 4; line++) {
            x.line(line, true);
        }
        x.tick(1);
        due("no line resets the one that has none", Circuits.rows(x), 0b10001);
    }

    @Holds(promise = 0, words = "and a BEGIN (0 or 1) to which its LINE resets it.")
    static void itsLineResetsAStoreToItsBegin() {
        FirstStates x = new FirstStates();
        due("begin -1", x.store(2, -1), OUTSIDE);
        due("begin 0", x.store(2, 0), 0);
        due("begin 1", x.store(2, 1), 1);
        due("begin 2", x.store(2, 2), OUTSIDE);
        x.line(2, true);
        due("tick", x.tick(1), 1);
        due("row", x.row(0), 2);
    }

    @Holds(promise = 0, words = "A STORE READS one NODE (any; itself at first).")
    static void aStoreReadsAnyNodeItselfAtFirst() {
        FirstStates x = Circuits.ofEachSort();
        due("itself at first", x.about(3, 4), 3);
        due("itself at first", x.about(4, 4), 4);
        due("what it holds stays", x.next(1), 1);
        due("what it holds stays", x.next(2), 2);
        int was = 3;
        for (int node : new int[] {4, 3, 2, 1, 0}) {
            due("reads(3, " + node + ")", x.reads(3, node), was);
            was = node;
        }
        x.fixed(0);
        due("one that came behind it", x.reads(3, 5), 0);
        due("next", x.next(1), 0);
    }

    @Holds(promise = 0, words = {"LINES are ON or OFF (at first);", "INPUTS are 0, 1 or OPEN (at first)."})
    static void linesAreOffAndInputsOpenAtFirst() {
        FirstStates x = new FirstStates();
        for (int i = 0; i < 4; i++) {
            due("sure", x.sure(x.input()), 2);
            due("line " + i, x.line(i, false), 0);
        }
        for (int i = 0; i < 4; i++) {
            due("set " + i, x.set(i, 2), 2);
        }
        for (int v = 0; v < 3; v++) {
            x.set(3, v);
            due("sure of an input that is " + v, x.sure(3), v);
        }
    }

    // ---- 1: ticks and rows

    @Holds(promise = 0, words = "At a TICK all STORES at once become:")
    static void allStoresAtOnce() {
        FirstStates x = Circuits.freeStores(6);
        for (int i = 0; i < 6; i++) {
            x.reads(i, (i + 5) % 6);
        }
        due("next(1)", x.next(1), 2);
        due("next(32)", x.next(32), 1);
        due("next(21)", x.next(21), 42);
        due("no row is lost", x.tick(64), 64);
        FirstStates y = Circuits.freeStores(2);
        y.reads(0, 1);
        y.reads(1, 0);
        due("they change places", y.next(1), 2);
        due("parts, too: no store is told", y.told(0), 2);
        y.fixed(1);
        y.reads(0, 2);
        y.tick(1);
        due("the second is not yet told what the first becomes", y.told(1), 2);
    }

    @Holds(promise = 0, words = {"of a LINE that is ON their BEGIN;", "others what the NODE that they READ is."})
    static void ofALineThatIsOnTheirBegin() {
        FirstStates x = new FirstStates();
        x.store(0, 1);
        x.store(1, 1);
        x.store(NONE, 1);
        int zero = x.fixed(0);
        for (int i = 0; i < 3; i++) {
            x.reads(i, zero);
        }
        due("all lines off", x.next(7), 0);
        x.line(0, true);
        due("line 0 on", x.next(0), 1);
        x.line(1, true);
        due("lines 0 and 1 on", x.next(0), 3);
        x.line(0, false);
        due("line 1 on", x.next(5), 2);
        x.tick(1);
        due("the row behind a tick", x.row(0), 2);
        due("parts: begin", x.told(1), 1);
        due("parts: what it reads", x.told(0), 0);
    }

    @Holds(promise = 0, words = "ROWS: a number whose bit i is what the i-th STORE (as they came) holds.")
    static void bitsOfRowsAreStoresAsTheyCame() {
        FirstStates x = new FirstStates();
        x.fixed(1);
        x.store(0, 0);
        x.input();
        x.store(1, 0);
        x.gate(0, 1, 0, 0);
        x.store(2, 0);
        x.reads(5, 0);
        x.reads(1, 4);
        x.reads(3, 1);
        due("next(0)", x.next(0), 0b101);
        due("next(1)", x.next(1), 0b110);
        x.tick(3);
        due("rows", Circuits.rows(x), 1L << 0b110 | 1L << 0b101);
    }

    @Holds(promise = 0, words = "At first,")
    static void atFirstAllRowsArePossible() {
        for (int stores = 0; stores <= 6; stores++) {
            FirstStates x = Circuits.freeStores(stores);
            due("possible", x.possible(), 1 << stores);
            due("row, the last", x.row((1 << stores) - 1), (1 << stores) - 1);
            due("count(3)", x.count(3), 0);
        }
    }

    @Holds(promise = 0, words = "and by fresh(),")
    static void byFreshAllRowsArePossible() {
        FirstStates x = begun();
        x.fresh();
        dueAnew(x, 8);
    }

    @Holds(promise = 0, words = "and whenever a NODE came")
    static void whenAnInputCame() {
        FirstStates x = begun();
        x.input();
        dueAnew(x, 8);
    }

    @Holds(promise = 0, words = "and whenever a NODE came")
    static void whenAFixedOneCame() {
        FirstStates x = begun();
        x.fixed(0);
        dueAnew(x, 8);
    }

    @Holds(promise = 0, words = "and whenever a NODE came")
    static void whenAGateCame() {
        FirstStates x = begun();
        x.gate(0, 0, 0, 0);
        dueAnew(x, 8);
    }

    @Holds(promise = 0, words = "and whenever a NODE came")
    static void whenAStoreCame() {
        FirstStates x = begun();
        x.store(0, 0);
        dueAnew(x, 16);
    }

    @Holds(promise = 0, words = "and whenever a NODE came")
    static void whenNoNodeCameNothingBeginsAnew() {
        FirstStates x = begun();
        x.line(0, true);
        x.need(0, 1, 2);
        x.fixed(2);
        x.gate(5, 0, 0, 0);
        x.store(4, 0);
        x.set(0, 0);
        due("possible", x.possible(), 1);
        due("count(3)", x.count(3), 3);
        due("told", x.told(0), 1);
    }

    @Holds(promise = 0, words = "or a STORE READS another one,")
    static void whenAStoreReadsAnotherNode() {
        FirstStates x = begun();
        x.reads(2, 3);
        dueAnew(x, 8);
    }

    @Holds(promise = 0, words = "or a STORE READS another one,")
    static void whenAStoreReadsTheSameNodeNothingBeginsAnew() {
        FirstStates x = begun();
        due("reads", x.reads(2, 1), 1);
        due("possible", x.possible(), 1);
        due("count(3)", x.count(3), 3);
        due("told", x.told(2), 1);
    }

    @Holds(promise = 0, words = "all ROWS are POSSIBLE, and no TICK was.")
    static void setAndLineBeginNothingAnew() {
        FirstStates x = new FirstStates();
        x.input();
        x.store(1, 1);
        x.line(1, true);
        x.tick(2);
        x.line(1, false);
        x.set(0, 1);
        due("possible", x.possible(), 1);
        due("count(3)", x.count(3), 2);
        x.fresh();
        due("possible", x.possible(), 2);
        due("count(3)", x.count(3), 0);
        due("an input stays as it is", x.sure(0), 1);
        due("a line stays off", x.line(1, true), 0);
        x.fresh();
        due("a line stays on", x.line(1, true), 1);
        x.fixed(0);
        due("a line stays on when a node came", x.count(4), 1);
        due("an input stays as it is when a node came", x.sure(0), 1);
    }

    /** The shifting circuit, three ticks on: one row. */
    private static FirstStates begun() {
        FirstStates x = Circuits.shifting();
        due("tick(3)", x.tick(3), 1);
        return x;
    }

    private static void dueAnew(FirstStates x, int rows) {
        due("possible", x.possible(), rows);
        due("row, the first", x.row(0), 0);
        due("row, the last", x.row(rows - 1), rows - 1);
        due("count(3)", x.count(3), 0);
        due("told", x.told(0), 2);
        due("sure", x.sure(0), 2);
        due("known", x.known(false) + x.known(true), 0);
    }

    @Holds(promise = 0, words = "A TICK makes POSSIBLE just the ROWS to which a POSSIBLE one leads,")
    static void onlyWherePossibleRowsLead() {
        FirstStates x = new FirstStates();
        x.store(0, 1);
        x.store(0, 0);
        x.store(NONE, 0);
        x.reads(1, 0);
        x.line(0, true);
        x.tick(1);
        due("rows", Circuits.rows(x), 1L << 1 | 1L << 5);
        x.line(0, false);
        x.tick(1);
        due("rows", Circuits.rows(x), 1L << 3 | 1L << 7);
        due("nothing comes back", x.tick(64), 2);
    }

    @Holds(promise = 0, words = "each OPEN INPUT being 0 or 1,")
    static void anOpenInputIsTheSameToAllAtOneTick() {
        FirstStates x = Circuits.freeStores(6);
        x.input();
        for (int i = 0; i < 6; i++) {
            x.reads(i, 6);
        }
        due("tick", x.tick(1), 2);
        due("rows", Circuits.rows(x), 1L | 1L << 63);
        x.set(6, 1);
        due("set to 1", x.tick(1), 1);
        due("row", x.row(0), 63);
        x.set(6, 2);
        due("open again", x.tick(1), 2);
    }

    @Holds(promise = 0, words = "each as it may be.")
    static void openInputsAreEachAsTheyMayBe() {
        FirstStates x = Circuits.freeStores(4);
        for (int i = 0; i < 4; i++) {
            x.input();
            x.reads(i, 4 + i);
        }
        x.tick(1);
        due("four open ones", Circuits.rows(x), 0xFFFF);
        x.set(5, 1);
        x.tick(1);
        due("the second one is 1", Circuits.rows(x), 0b1100110011001100);
        x.set(7, 0);
        x.tick(1);
        due("and the fourth 0", Circuits.rows(x), 0b11001100);
        FirstStates y = Circuits.freeStores(2);
        y.input();
        y.reads(0, 2);
        y.reads(1, 0);
        due("another number at each tick", y.tick(2), 4);
    }

    // ---- 2: sure, and told by parts

    @Holds(promise = 0, words = "A NODE is SURE of a number, if it is that in all POSSIBLE ROWS,")
    static void sureInAllPossibleRows() {
        FirstStates x = Circuits.shifting();
        int both = x.gate(1, 0, 1, 0);
        int one = x.gate(2, 0, 1, 0);
        due("in no store at first", x.sure(both), 2);
        due("in no store at first", x.sure(one), 2);
        x.tick(1);
        due("one of two rows differs", x.sure(both), 2);
        due("1 in all", x.sure(one), 1);
        x.tick(1);
        due("1 in all", x.sure(both), 1);
        FirstStates y = Circuits.freeStores(6);
        int all = y.gate(1, 0, 1, 0);
        for (int i = 2; i < 6; i++) {
            all = y.gate(1, all, i, 0);
        }
        due("1 in row 63 alone", y.sure(all), 2);
    }

    @Holds(promise = 0, words = "whatever OPEN INPUTS are.")
    static void sureWhateverOpenInputsAre() {
        FirstStates x = new FirstStates();
        for (int i = 0; i < 4; i++) {
            x.input();
        }
        int all = x.gate(1, x.gate(1, 0, 1, 0), x.gate(1, 2, 3, 0), 0);
        int none = x.gate(1, 0, x.gate(0, 0, 0, 0), 0);
        due("1 at the last of sixteen ways alone", x.sure(all), 2);
        due("0 at all ways", x.sure(none), 0);
        x.set(2, 0);
        due("0, since one is 0", x.sure(all), 0);
        for (int i = 0; i < 4; i++) {
            x.set(i, 1);
        }
        due("1, since no input is open", x.sure(all), 1);
    }

    @Holds(promise = 0, words = "By PARTS it is told 0, 1 or 2 (not known): OPEN INPUTS 2;")
    static void openInputsAreToldNothing() {
        FirstStates x = new FirstStates();
        int in = x.input();
        due("open", x.told(in), 2);
        x.set(in, 0);
        due("0", x.told(in), 0);
        x.set(in, 1);
        due("1", x.told(in), 1);
        x.set(in, 2);
        due("open again", x.told(in), 2);
        due("fixed 0", x.told(x.fixed(0)), 0);
        due("fixed 1", x.told(x.fixed(1)), 1);
    }

    @Holds(promise = 0, words = "STORES 2 at first,")
    static void storesAreToldNothingAtFirst() {
        FirstStates x = Circuits.shifting();
        for (int round = 0; round < 2; round++) {
            for (int i = 0; i < 3; i++) {
                due("at first and by fresh()", x.told(i), 2);
            }
            x.tick(3);
            due("told behind ticks", x.told(2), 1);
            x.fresh();
        }
    }

    @Holds(promise = 0, words = "at a TICK as they become by what is told;")
    static void storesAreToldAtTicks() {
        FirstStates x = Circuits.shifting();
        for (int tick = 1; tick <= 3; tick++) {
            x.tick(1);
            for (int i = 0; i < 3; i++) {
                due("tick " + tick + ", store " + i, x.told(i), i < tick ? 1 : 2);
            }
        }
        FirstStates y = new FirstStates();
        y.store(0, 1);
        y.input();
        y.reads(0, 1);
        y.line(0, true);
        y.tick(1);
        due("by its line", y.told(0), 1);
        y.line(0, false);
        due("not ahead of a tick", y.told(0), 1);
        y.tick(1);
        due("by an open input", y.told(0), 2);
        y.set(1, 0);
        due("not ahead of a tick", y.told(0), 2);
        y.tick(1);
        due("by an input that is 0", y.told(0), 0);
    }

    @Holds(promise = 0, words = "NOT of 2 is 2;")
    static void notByParts() {
        dueTable(0, "102", "102", "102");
    }

    @Holds(promise = 0, words = "AND: 0 if one is 0, 1 if both are 1, else 2;")
    static void andByParts() {
        dueTable(1, "000", "012", "022");
    }

    @Holds(promise = 0, words = "OR: 1 if one is 1, 0 if both are 0, else 2;")
    static void orByParts() {
        dueTable(2, "012", "111", "212");
    }

    @Holds(promise = 0, words = "XOR: 2 if one is 2;")
    static void xorByParts() {
        dueTable(3, "012", "102", "222");
    }

    /** In each row the answers at a = 0, 1, 2; the rows are those of b = 0, 1, 2. */
    private static void dueTable(int kind, String... rows) {
        FirstStates x = new FirstStates();
        x.fixed(0);
        x.fixed(1);
        x.input();
        for (int b = 0; b < 3; b++) {
            for (int a = 0; a < 3; a++) {
                due("a " + a + ", b " + b, x.told(x.gate(kind, a, b, 0)), rows[b].charAt(a) - '0');
            }
        }
    }

    @Holds(promise = 0, words = "CHOICE: a 2: what b and c are, if they are told alike, else 2.")
    static void choiceByParts() {
        FirstStates x = new FirstStates();
        x.fixed(0);
        x.fixed(1);
        x.input();
        for (int b = 0; b < 3; b++) {
            for (int c = 0; c < 3; c++) {
                due("a 2, b " + b + ", c " + c, x.told(x.gate(4, 2, b, c)), b == c ? b : 2);
                due("a 1, b " + b + ", c " + c, x.told(x.gate(4, 1, b, c)), b);
                due("a 0, b " + b + ", c " + c, x.told(x.gate(4, 0, b, c)), c);
            }
        }
    }

    @Holds(promise = 0, words = "(So what is told 0 or 1 by PARTS is SURE.)")
    static void whatIsToldIsSure() {
        int told = 0;
        int sureAlone = 0;
        for (int inputs = 1; inputs <= 4; inputs++) {
            for (int stores = 2; stores <= 6; stores++) {
                FirstStates x = Circuits.busy(inputs, stores, 28);
                x.line(3, true);
                for (int tick = 0; tick < 3; tick++) {
                    for (int node = 0; node < 28; node++) {
                        int byParts = x.told(node);
                        int surely = x.sure(node);
                        told += byParts != 2 ? 1 : 0;
                        sureAlone += byParts == 2 && surely != 2 ? 1 : 0;
                        due("node " + node, byParts == 2 ? surely : byParts, surely);
                    }
                    x.tick(1);
                }
            }
        }
        due("some are told", told > 0 ? 1 : 0, 1);
        due("some are sure and not told", sureAlone > 0 ? 1 : 0, 1);
    }

    // ---- 3: what leans on what, and lines let go

    @Holds(promise = 0, words = "A STORE DEPENDS on another one (or itself), if from the NODE that it READS a way of"
            + " GATES leads back to that one, or it READS it.")
    static void dependsByAWayOfGates() {
        FirstStates x = Circuits.freeStores(3);
        int zero = x.fixed(0);
        due("it reads itself", x.depends(0, 0), 1);
        x.reads(0, 1);
        due("it reads that one", x.depends(0, 1), 1);
        due("no more itself", x.depends(0, 0), 0);
        due("the other way round", x.depends(1, 0), 0);
        x.reads(1, 2);
        due("not by way of a store", x.depends(0, 2), 0);
        int way = x.gate(1, zero, 2, 0);
        for (int i = 0; i < 20; i++) {
            way = x.gate(i % 4, way, zero, 0);
        }
        x.reads(0, way);
        due("by a long way of gates, whatever they tell", x.depends(0, 2), 1);
        due("on no other one", x.depends(0, 1), 0);
        x.reads(0, zero);
        due("a fixed one leads nowhere", x.depends(0, 2), 0);
    }

    @Holds(promise = 0, words = "A STORE DEPENDS on another one (or itself), if from the NODE that it READS a way of"
            + " GATES leads back to that one, or it READS it.")
    static void dependsByEachPlaceOfAGate() {
        FirstStates x = Circuits.freeStores(6);
        int zero = x.fixed(0);
        x.reads(0, x.gate(4, 1, 2, 3));
        due("a of CHOICE", x.depends(0, 1), 1);
        due("b of CHOICE", x.depends(0, 2), 1);
        due("c of CHOICE", x.depends(0, 3), 1);
        due("none of CHOICE", x.depends(0, 4), 0);
        for (int kind = 1; kind < 4; kind++) {
            x.reads(0, x.gate(kind, 1, 2, 3));
            due("a of gate " + kind, x.depends(0, 1), 1);
            due("b of gate " + kind, x.depends(0, 2), 1);
            due("gate " + kind + " has no c", x.depends(0, 3), 0);
        }
        x.reads(0, x.gate(0, 1, 2, 3));
        due("a of NOT", x.depends(0, 1), 1);
        due("NOT has no b", x.depends(0, 2), 0);
        due("NOT has no c", x.depends(0, 3), 0);
        x.reads(0, zero);
        due("no gate", x.depends(0, 1), 0);
    }

    @Holds(promise = 0, words = "CROSSINGS are pairs of two STORES of unlike LINES (none is a LINE of its own) of which"
            + " the second DEPENDS on the first.")
    static void crossingsAreOfUnlikeLines() {
        FirstStates x = new FirstStates();
        x.store(0, 0);
        x.store(0, 0);
        x.store(NONE, 0);
        x.store(NONE, 0);
        due("each reads itself", x.crossings(), 0);
        x.reads(1, 0);
        due("of one line", x.crossings(), 0);
        x.reads(3, 2);
        due("both of none", x.crossings(), 0);
        x.reads(3, 0);
        due("none behind line 0", x.crossing(0), 3);
        x.reads(3, 2);
        x.reads(0, 2);
        due("line 0 behind none", x.crossing(0), 200);
        due("just that one", x.crossings(), 1);
    }

    @Holds(promise = 0, words = "NEEDS: LINE a is let go w TICKS (0 to 20) at least behind LINE b.")
    static void aIsLetGoBehindB() {
        FirstStates x = new FirstStates();
        due("-1", x.need(2, 1, -1), OUTSIDE);
        due("21", x.need(2, 1, 21), OUTSIDE);
        due("20", x.need(2, 1, 20), NONE);
        due("a", x.go(2), 20);
        due("b", x.go(1), 0);
        due("0", x.need(1, 0, 0), NONE);
        due("at the same tick", x.go(1), 0);
        x.need(1, 0, 1);
        due("a behind b that is behind another", x.go(2), 21);
    }

    @Holds(promise = 0, words = {
        "All begin ON;", "each is let go as early as all NEEDS let, at TICK 0 or later;"})
    static void asEarlyAsAllNeedsLet() {
        FirstStates x = new FirstStates();
        x.line(0, true);
        x.line(1, false);
        for (int line = 0; line < 4; line++) {
            due("line " + line + " at first", x.go(line), 0);
        }
        x.need(3, 0, 5);
        x.need(3, 1, 9);
        x.need(3, 2, 7);
        due("behind the latest of three", x.go(3), 9);
        x.need(0, 1, 6);
        due("behind the longest way", x.go(3), 11);
        x.tick(9);
        due("ticks let none go", x.count(4), 1);
        due("lines, on or off, are let go alike", x.gone(0), 2);
    }

    @Holds(promise = 0, words = "a ring of NEEDS with TICKS in it (more than 0 together) can never be met:")
    static void aRingWithTicks() {
        for (int length = 1; length <= 4; length++) {
            FirstStates x = ring(length, 0);
            for (int line = 0; line < 4; line++) {
                due("a ring of " + length + " without ticks, line " + line, x.go(line), 0);
            }
            x.need(length - 1, 0, 1);
            for (int line = 0; line < 4; line++) {
                due("a ring of " + length + " with one tick, line " + line, x.go(line), line < length ? NONE : 0);
            }
            x.need(length - 1, 0, NONE);
            due("no ring", x.go(length - 1), 0);
        }
    }

    /** Lines 0 to length - 1, each behind the next one, the last behind the first. */
    private static FirstStates ring(int length, int wait) {
        FirstStates x = new FirstStates();
        for (int line = 0; line < length; line++) {
            x.need(line, (line + 1) % length, wait);
        }
        return x;
    }

    @Holds(promise = 0, words = "LINES on it, and those that need them, are never let go.")
    static void thoseThatNeedARing() {
        FirstStates x = new FirstStates();
        x.need(3, 3, 1);
        x.need(2, 3, 0);
        x.need(1, 2, 0);
        x.need(0, 1, 0);
        for (int line = 0; line < 4; line++) {
            due("behind a ring, line " + line, x.go(line), NONE);
        }
        due("gone", x.gone(Integer.MAX_VALUE), 0);
        FirstStates y = new FirstStates();
        y.need(0, 0, 1);
        y.need(1, 0, 0);
        y.need(2, 1, 0);
        y.need(3, 2, 0);
        due("behind it in the other order", y.go(3), NONE);
        FirstStates z = new FirstStates();
        z.need(1, 2, 20);
        z.need(2, 1, 0);
        z.need(1, 0, 4);
        z.need(2, 3, 4);
        due("on it", z.go(1), NONE);
        due("on it", z.go(2), NONE);
        due("one that they need", z.go(0), 0);
        due("one that they need", z.go(3), 0);
    }
}

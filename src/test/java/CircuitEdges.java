/** Promises 1 to 7: a new object, and the circuit. */
final class CircuitEdges {
    private static final int UNKNOWN = -1, OUTSIDE = -2, STATE = -3, FULL = -4, NONE = -9;

    private CircuitEdges() {
    }

    private static void due(String call, long got, long want) {
        EdgeTests.due(call, got, want);
    }

    // ---- promise 1: a new object

    @Holds(promise = 1, words = "No NODES,")
    static void newObjectHasNoNodes() {
        FirstStates x = new FirstStates();
        for (int what = 0; what <= 3; what++) {
            due("count(" + what + ")", x.count(what), 0);
        }
        due("about(0, 0)", x.about(0, 0), UNKNOWN);
        due("sure(0)", x.sure(0), UNKNOWN);
        due("told(0)", x.told(0), UNKNOWN);
        due("gate of node 0", x.gate(0, 0, 0, 0), UNKNOWN);
    }

    @Holds(promise = 1, words = "No NODES,")
    static void newObjectHasTheEmptyRow() {
        FirstStates x = new FirstStates();
        due("possible", x.possible(), 1);
        due("row(0)", x.row(0), 0);
        due("row(1)", x.row(1), NONE);
        due("next(0)", x.next(0), 0);
        due("next(1)", x.next(1), OUTSIDE);
        due("known", x.known(false), 0);
        due("known by parts", x.known(true), 0);
        due("settles", x.settles(), 0);
        due("alone", x.alone(0), 0);
        due("mend", x.mend(1), 0);
        due("crossings", x.crossings(), 0);
        due("tick", x.tick(64), 1);
        due("fresh", x.fresh(), 64);
    }

    @Holds(promise = 1, words = "all LINES OFF,")
    static void newObjectHasAllLinesOff() {
        FirstStates x = new FirstStates();
        due("count(4)", x.count(4), 0);
        for (int line = 0; line < 4; line++) {
            due("line " + line, x.line(line, true), 0);
        }
    }

    @Holds(promise = 1, words = "no NEEDS.")
    static void newObjectHasNoNeeds() {
        FirstStates x = new FirstStates();
        due("count(5)", x.count(5), 0);
        due("gone(0)", x.gone(0), 4);
        for (int pair = 0; pair < 16; pair++) {
            due("need " + pair, x.need(pair / 4, pair % 4, NONE), NONE);
        }
    }

    @Holds(promise = 1, words = "No NODES,")
    static void newObjectsHaveNothingInCommon() {
        FirstStates x = Circuits.busy(4, 6, 32);
        FirstStates y = new FirstStates();
        due("nodes", y.count(0), 0);
        due("lines", y.count(4), 0);
        due("needs", y.count(5), 0);
        y.store(0, 1);
        due("nodes of the other", x.count(0), 32);
        due("rows of the new one", y.possible(), 2);
    }

    // ---- promise 2: input

    @Holds(promise = 2, words = "An INPUT: its NODE.")
    static void inputAnswersItsNode() {
        FirstStates x = Circuits.fixedNodes(2);
        due("input", x.input(), 2);
        due("its sort", x.about(2, 0), 0);
        due("count(2)", x.count(2), 1);
    }

    @Holds(promise = 2, words = "FULL: 4,")
    static void fifthInput() {
        FirstStates x = Circuits.fixedNodes(7);
        for (int i = 0; i < 4; i++) {
            due("input", x.input(), 7 + i);
        }
        due("the fifth", x.input(), FULL);
        due("again", x.input(), FULL);
        due("another sort still comes", x.fixed(0), 11);
    }

    @Holds(promise = 2, words = "or 32 NODES.")
    static void inputAsNode32And33() {
        FirstStates x = Circuits.fixedNodes(31);
        due("the 32nd node", x.input(), 31);
        due("the 33rd node", x.input(), FULL);
        due("count(2)", x.count(2), 1);
    }

    // ---- promise 3: fixed

    @Holds(promise = 3, words = "A FIXED NODE.")
    static void fixedAnswersItsNode() {
        FirstStates x = new FirstStates();
        due("fixed(1)", x.fixed(1), 0);
        due("fixed(0)", x.fixed(0), 1);
        due("its sort", x.about(1, 0), 1);
        due("sure(0)", x.sure(0), 1);
        due("sure(1)", x.sure(1), 0);
    }

    @Holds(promise = 3, words = "OUTSIDE;")
    static void fixedIsZeroOrOne() {
        FirstStates x = new FirstStates();
        for (int v : new int[] {-1, 2, 3, NONE}) {
            due("fixed(" + v + ")", x.fixed(v), OUTSIDE);
        }
        for (int v : Circuits.FAR) {
            due("fixed(" + v + ")", x.fixed(v), OUTSIDE);
        }
        due("count(0)", x.count(0), 0);
    }

    @Holds(promise = 3, words = "FULL.")
    static void fixedAsNode32And33() {
        FirstStates x = Circuits.fixedNodes(31);
        due("the 32nd node", x.fixed(1), 31);
        due("the 33rd node", x.fixed(1), FULL);
        due("count(0)", x.count(0), 32);
    }

    @Holds(promise = 3, words = "OUTSIDE; FULL.")
    static void fixedIsOutsideAheadOfFull() {
        due("fixed(2)", Circuits.fixedNodes(32).fixed(2), OUTSIDE);
    }

    // ---- promise 4: gate

    @Holds(promise = 4, words = "A GATE: its NODE")
    static void gateAnswersItsNode() {
        FirstStates x = Circuits.fixedNodes(3);
        for (int kind = 0; kind < 5; kind++) {
            due("gate(" + kind + ", 0, 1, 2)", x.gate(kind, 0, 1, 2), 3 + kind);
            due("its sort", x.about(3 + kind, 0), 2);
            due("its kind", x.about(3 + kind, 1), kind);
        }
    }

    @Holds(promise = 4, words = "(b, c are looked at as far as it has them).")
    static void notHasNoBAndNoC() {
        FirstStates x = Circuits.fixedNodes(1);
        int node = 1;
        for (int other : new int[] {-1, 32, Integer.MIN_VALUE, Integer.MAX_VALUE}) {
            due("NOT", x.gate(0, 0, other, other), node);
            due("sure", x.sure(node), 1);
            due("told", x.told(node), 1);
            node++;
        }
    }

    @Holds(promise = 4, words = "(b, c are looked at as far as it has them).")
    static void andOrXorHaveNoC() {
        FirstStates x = new FirstStates();
        x.fixed(1);
        x.fixed(0);
        int node = 2;
        int[] want = {0, 1, 1};
        for (int kind = 1; kind < 4; kind++) {
            for (int other : new int[] {-1, 32, Integer.MIN_VALUE, Integer.MAX_VALUE}) {
                due("gate " + kind, x.gate(kind, 0, 1, other), node);
                due("sure", x.sure(node), want[kind - 1]);
                node++;
            }
            due("gate " + kind + " has b", x.gate(kind, 0, node, 0), UNKNOWN);
        }
    }

    @Holds(promise = 4, words = "OUTSIDE: kind;")
    static void gateKinds() {
        FirstStates x = Circuits.fixedNodes(1);
        due("kind -1", x.gate(-1, 0, 0, 0), OUTSIDE);
        due("kind 5", x.gate(5, 0, 0, 0), OUTSIDE);
        for (int kind : Circuits.FAR) {
            due("kind " + kind, x.gate(kind, 0, 0, 0), OUTSIDE);
        }
        due("kind 0", x.gate(0, 0, 0, 0), 1);
        due("kind 4", x.gate(4, 0, 0, 0), 2);
    }

    @Holds(promise = 4, words = "UNKNOWN: a, b, c;")
    static void gateOfNoSuchA() {
        FirstStates x = Circuits.fixedNodes(3);
        for (int kind = 0; kind < 5; kind++) {
            for (int a : new int[] {-1, 3, 31, NONE}) {
                due("kind " + kind + ", a " + a, x.gate(kind, a, 0, 0), UNKNOWN);
            }
            for (int a : Circuits.FAR) {
                due("kind " + kind + ", a " + a, x.gate(kind, a, 0, 0), UNKNOWN);
            }
        }
        due("count(0)", x.count(0), 3);
    }

    @Holds(promise = 4, words = "UNKNOWN: a, b, c;")
    static void gateOfNoSuchB() {
        FirstStates x = Circuits.fixedNodes(3);
        for (int kind = 1; kind < 5; kind++) {
            for (int b : new int[] {-1, 3, 31, NONE}) {
                due("kind " + kind + ", b " + b, x.gate(kind, 0, b, 0), UNKNOWN);
            }
            for (int b : Circuits.FAR) {
                due("kind " + kind + ", b " + b, x.gate(kind, 0, b, 0), UNKNOWN);
            }
        }
        due("count(0)", x.count(0), 3);
    }

    @Holds(promise = 4, words = "UNKNOWN: a, b, c;")
    static void choiceOfNoSuchC() {
        FirstStates x = Circuits.fixedNodes(3);
        for (int c : new int[] {-1, 3, 31, NONE}) {
            due("c " + c, x.gate(4, 0, 0, c), UNKNOWN);
        }
        for (int c : Circuits.FAR) {
            due("c " + c, x.gate(4, 0, 0, c), UNKNOWN);
        }
        due("count(0)", x.count(0), 3);
        due("all there", x.gate(4, 2, 2, 2), 3);
    }

    @Holds(promise = 4, words = "FULL.")
    static void gateAsNode32And33() {
        FirstStates x = Circuits.fixedNodes(31);
        due("the 32nd node", x.gate(4, 30, 0, 1), 31);
        for (int kind = 0; kind < 5; kind++) {
            due("the 33rd node, kind " + kind, x.gate(kind, 31, 31, 31), FULL);
        }
        due("count(0)", x.count(0), 32);
    }

    @Holds(promise = 4, words = "OUTSIDE: kind; UNKNOWN: a, b, c; FULL.")
    static void gateRefusalsInTheirOrder() {
        FirstStates x = Circuits.fixedNodes(3);
        due("kind ahead of a, b, c", x.gate(5, 3, 3, 3), OUTSIDE);
        due("kind ahead of a, b, c", x.gate(-1, -1, -1, -1), OUTSIDE);
        FirstStates y = Circuits.fixedNodes(32);
        due("kind ahead of full", y.gate(5, 0, 0, 0), OUTSIDE);
        due("a ahead of full", y.gate(0, 32, 0, 0), UNKNOWN);
        due("b ahead of full", y.gate(1, 0, 32, 0), UNKNOWN);
        due("c ahead of full", y.gate(4, 0, 0, 32), UNKNOWN);
        due("NOT has no b, c: full", y.gate(0, 0, 32, 32), FULL);
    }

    // ---- promise 5: store

    @Holds(promise = 5, words = "A STORE: its NODE.")
    static void storeAnswersItsNode() {
        FirstStates x = Circuits.fixedNodes(2);
        due("store", x.store(3, 1), 2);
        due("its sort", x.about(2, 0), 3);
        due("its line", x.about(2, 2), 3);
        due("its begin", x.about(2, 3), 1);
        due("count(1)", x.count(1), 1);
    }

    @Holds(promise = 5, words = "UNKNOWN: line (NONE: none);")
    static void storeOfALineThatIsNotThere() {
        FirstStates x = new FirstStates();
        for (int line : new int[] {-1, 4, 5, -8, -10, UNKNOWN, OUTSIDE, STATE, FULL}) {
            due("line " + line, x.store(line, 0), UNKNOWN);
        }
        for (int line : Circuits.FAR) {
            due("line " + line, x.store(line, 0), UNKNOWN);
        }
        due("count(1)", x.count(1), 0);
        for (int line = 0; line < 4; line++) {
            due("line " + line, x.store(line, 0), line);
        }
        due("NONE", x.store(NONE, 0), 4);
        due("its line", x.about(4, 2), NONE);
    }

    @Holds(promise = 5, words = "OUTSIDE: begin;")
    static void storeBegins() {
        FirstStates x = new FirstStates();
        for (int begin : new int[] {-1, 2, NONE}) {
            due("begin " + begin, x.store(0, begin), OUTSIDE);
            due("begin " + begin + ", no line", x.store(NONE, begin), OUTSIDE);
        }
        for (int begin : Circuits.FAR) {
            due("begin " + begin, x.store(0, begin), OUTSIDE);
        }
        due("begin 0", x.store(0, 0), 0);
        due("begin 1", x.store(0, 1), 1);
    }

    @Holds(promise = 5, words = "FULL: 6,")
    static void seventhStore() {
        FirstStates x = Circuits.fixedNodes(4);
        for (int i = 0; i < 6; i++) {
            due("store", x.store(NONE, 0), 4 + i);
            due("possible", x.possible(), 2 << i);
        }
        due("the seventh", x.store(NONE, 0), FULL);
        due("of a line", x.store(0, 0), FULL);
        due("possible", x.possible(), 64);
        due("another sort still comes", x.fixed(0), 10);
    }

    @Holds(promise = 5, words = "or 32 NODES.")
    static void storeAsNode32And33() {
        FirstStates x = Circuits.fixedNodes(31);
        due("the 32nd node", x.store(0, 0), 31);
        due("the 33rd node", x.store(0, 0), FULL);
        due("count(1)", x.count(1), 1);
        due("possible", x.possible(), 2);
    }

    @Holds(promise = 5, words = "UNKNOWN: line (NONE: none); OUTSIDE: begin; FULL: 6, or 32 NODES.")
    static void storeRefusalsInTheirOrder() {
        FirstStates x = new FirstStates();
        due("line ahead of begin", x.store(4, 2), UNKNOWN);
        FirstStates y = Circuits.freeStores(6);
        due("line ahead of full of stores", y.store(4, 0), UNKNOWN);
        due("begin ahead of full of stores", y.store(0, 2), OUTSIDE);
        FirstStates z = Circuits.fixedNodes(32);
        due("line ahead of full of nodes", z.store(-1, 0), UNKNOWN);
        due("begin ahead of full of nodes", z.store(NONE, -1), OUTSIDE);
    }

    // ---- promise 6: reads

    @Holds(promise = 6, words = "A STORE READS a NODE: which it READ.")
    static void readsAnswersWhatWasRead() {
        FirstStates x = Circuits.ofEachSort();
        due("itself", x.reads(3, 4), 3);
        due("another store", x.reads(3, 0), 4);
        due("an input", x.reads(3, 1), 0);
        due("a fixed one", x.reads(3, 2), 1);
        due("a gate", x.reads(3, 3), 2);
        due("itself again", x.reads(3, 3), 3);
        due("the other store reads itself still", x.reads(4, 3), 4);
    }

    @Holds(promise = 6, words = "UNKNOWN;")
    static void readsOfNoSuchNode() {
        FirstStates x = Circuits.ofEachSort();
        for (int node : new int[] {-1, 5, 31, NONE}) {
            due("reads(" + node + ", 3)", x.reads(node, 3), UNKNOWN);
            due("reads(3, " + node + ")", x.reads(3, node), UNKNOWN);
        }
        for (int node : Circuits.FAR) {
            due("reads(" + node + ", 3)", x.reads(node, 3), UNKNOWN);
            due("reads(3, " + node + ")", x.reads(3, node), UNKNOWN);
        }
        due("what it read", x.reads(3, 3), 3);
    }

    @Holds(promise = 6, words = "STATE: the first is no STORE.")
    static void readsOfNoStore() {
        FirstStates x = Circuits.ofEachSort();
        for (int node = 0; node < 3; node++) {
            due("reads(" + node + ", 3)", x.reads(node, 3), STATE);
        }
        due("the second may be no store", x.reads(3, 0), 3);
    }

    @Holds(promise = 6, words = "UNKNOWN; STATE: the first is no STORE.")
    static void readsIsUnknownAheadOfState() {
        FirstStates x = Circuits.ofEachSort();
        due("no store, no such node", x.reads(0, 5), UNKNOWN);
        due("no store, node -1", x.reads(2, -1), UNKNOWN);
    }

    // ---- promise 7: about

    @Holds(promise = 7, words = "A NODE: its sort (what = 0: 0 INPUT, 1 FIXED, 2 GATE, 3 STORE),")
    static void aboutSorts() {
        FirstStates x = Circuits.ofEachSort();
        for (int node = 0; node < 4; node++) {
            due("about(" + node + ", 0)", x.about(node, 0), node);
        }
    }

    @Holds(promise = 7, words = "of a GATE its kind, of others NONE (1),")
    static void aboutKinds() {
        FirstStates x = Circuits.ofEachSort();
        for (int node : new int[] {0, 1, 3, 4}) {
            due("about(" + node + ", 1)", x.about(node, 1), NONE);
        }
        for (int kind = 0; kind < 5; kind++) {
            due("kind " + kind, x.about(x.gate(kind, 0, 1, 2), 1), kind);
        }
    }

    @Holds(promise = 7, words = "of a STORE its LINE, BEGIN, the NODE that it READS (2, 3, 4;")
    static void aboutStores() {
        FirstStates x = new FirstStates();
        x.fixed(0);
        int[] lines = {0, 1, 2, 3, NONE, NONE};
        for (int i = 0; i < 6; i++) {
            x.store(lines[i], i & 1);
        }
        x.reads(6, 0);
        for (int i = 0; i < 6; i++) {
            due("line of store " + i, x.about(1 + i, 2), lines[i]);
            due("begin of store " + i, x.about(1 + i, 3), i & 1);
            due("read by store " + i, x.about(1 + i, 4), i == 5 ? 0 : 1 + i);
        }
    }

    @Holds(promise = 7, words = "else NONE).")
    static void aboutNoStores() {
        FirstStates x = Circuits.ofEachSort();
        for (int node = 0; node < 3; node++) {
            for (int what = 2; what < 5; what++) {
                due("about(" + node + ", " + what + ")", x.about(node, what), NONE);
            }
        }
    }

    @Holds(promise = 7, words = "UNKNOWN;")
    static void aboutNoSuchNode() {
        FirstStates x = Circuits.ofEachSort();
        for (int what = 0; what < 5; what++) {
            for (int node : new int[] {-1, 5, 31, 32, NONE}) {
                due("about(" + node + ", " + what + ")", x.about(node, what), UNKNOWN);
            }
            for (int node : Circuits.FAR) {
                due("about(" + node + ", " + what + ")", x.about(node, what), UNKNOWN);
            }
        }
    }

    @Holds(promise = 7, words = "OUTSIDE.")
    static void aboutWhatIsNotTold() {
        FirstStates x = Circuits.ofEachSort();
        for (int node = 0; node < 5; node++) {
            due("about(" + node + ", -1)", x.about(node, -1), OUTSIDE);
            due("about(" + node + ", 5)", x.about(node, 5), OUTSIDE);
            for (int what : Circuits.FAR) {
                due("about(" + node + ", " + what + ")", x.about(node, what), OUTSIDE);
            }
        }
    }

    @Holds(promise = 7, words = "UNKNOWN; OUTSIDE.")
    static void aboutIsUnknownAheadOfOutside() {
        FirstStates x = Circuits.ofEachSort();
        due("about(5, 5)", x.about(5, 5), UNKNOWN);
        due("about(-1, -1)", x.about(-1, -1), UNKNOWN);
    }
}

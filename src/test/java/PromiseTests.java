/** Each promise by hand: ordinary inputs, the edges that the document names, wrong inputs. */
public final class PromiseTests {
    private static final int UNKNOWN = -1, OUTSIDE = -2, STATE = -3, FULL = -4, NONE = -9;
    private static final Checks CHECKS = new Checks("PromiseTests");
    private static int promise;

    public static void main(String[] args) {
        promise = 1; newObject();
        promise = 2; inputs();
        promise = 3; fixedNodes();
        promise = 4; gates();
        promise = 5; stores();
        promise = 6; readings();
        promise = 7; abouts();
        promise = 8; lines();
        promise = 9; settings();
        promise = 10; ticks();
        promise = 11; freshness();
        promise = 12; possibleRows();
        promise = 13; rowsInOrder();
        promise = 14; sureNodes();
        promise = 15; toldNodes();
        promise = 16; knownStores();
        promise = 17; settling();
        promise = 18; nextRows();
        promise = 19; leaning();
        promise = 20; crossingCounts();
        promise = 21; crossingsInOrder();
        promise = 22; linesAlone();
        promise = 23; mending();
        promise = 24; needs();
        promise = 25; going();
        promise = 26; goneLines();
        promise = 27; counts();
        promise = 0; fullCircuit();
        CHECKS.end();
    }

    private static void due(String call, long got, long want) {
        CHECKS.due("promise " + promise + ": " + call, got, want);
    }

    private static void newObject() {
        FirstStates x = new FirstStates();
        due("UNKNOWN", FirstStates.UNKNOWN, UNKNOWN);
        due("OUTSIDE", FirstStates.OUTSIDE, OUTSIDE);
        due("STATE", FirstStates.STATE, STATE);
        due("FULL", FirstStates.FULL, FULL);
        due("NONE", FirstStates.NONE, NONE);
        for (int what = 0; what < 6; what++) {
            due("count", x.count(what), 0);
        }
        due("possible", x.possible(), 1);
        due("row(0)", x.row(0), 0);
        due("row(1)", x.row(1), NONE);
        due("known", x.known(true), 0);
        due("settles", x.settles(), 0);
        due("next(0)", x.next(0), 0);
        due("next(1)", x.next(1), OUTSIDE);
        due("crossings", x.crossings(), 0);
        due("alone", x.alone(3), 0);
        due("mend", x.mend(1), 0);
        due("gone(0)", x.gone(0), 4);
        due("fresh", x.fresh(), 0);
        for (int line = 0; line < 4; line++) {
            due("go", x.go(line), 0);
            due("line", x.line(line, false), 0);
        }
    }

    private static void inputs() {
        FirstStates x = new FirstStates();
        for (int i = 0; i < 4; i++) {
            due("input", x.input(), i);
            due("it is open", x.set(i, 2), 2);
        }
        due("input, the fifth", x.input(), FULL);
        due("count(0)", x.count(0), 4);
        FirstStates y = new FirstStates();
        for (int i = 0; i < 32; i++) {
            y.fixed(0);
        }
        due("input, node 33", y.input(), FULL);
        due("count(2)", y.count(2), 0);
    }

    private static void fixedNodes() {
        FirstStates x = new FirstStates();
        due("fixed(-1)", x.fixed(-1), OUTSIDE);
        due("fixed(2)", x.fixed(2), OUTSIDE);
        due("fixed(1)", x.fixed(1), 0);
        due("fixed(0)", x.fixed(0), 1);
        due("sure(0)", x.sure(0), 1);
        due("sure(1)", x.sure(1), 0);
        due("told(0)", x.told(0), 1);
        due("told(1)", x.told(1), 0);
        for (int i = 2; i < 32; i++) {
            due("fixed", x.fixed(1), i);
        }
        due("fixed, node 33", x.fixed(1), FULL);
        due("fixed(2), node 33", x.fixed(2), OUTSIDE);
        due("count(0)", x.count(0), 32);
    }

    private static void gates() {
        FirstStates x = new FirstStates();
        due("no nodes", x.gate(0, 0, 0, 0), UNKNOWN);
        for (int i = 0; i < 3; i++) {
            x.input();
        }
        due("kind -1", x.gate(-1, 9, 9, 9), OUTSIDE);
        due("kind 5", x.gate(5, 0, 0, 0), OUTSIDE);
        due("a -1", x.gate(0, -1, 0, 0), UNKNOWN);
        due("a is itself", x.gate(0, 3, 0, 0), UNKNOWN);
        due("b of AND", x.gate(1, 0, 3, 0), UNKNOWN);
        due("b of CHOICE", x.gate(4, 0, -1, 0), UNKNOWN);
        due("c of CHOICE", x.gate(4, 0, 0, 3), UNKNOWN);
        due("count(0)", x.count(0), 3);
        due("NOT", x.gate(0, 0, 99, -99), 3);
        due("AND", x.gate(1, 0, 1, 99), 4);
        due("OR", x.gate(2, 0, 1, -1), 5);
        due("XOR", x.gate(3, 0, 1, 99), 6);
        due("CHOICE", x.gate(4, 0, 1, 2), 7);
        for (int bits = 0; bits < 8; bits++) {
            int a = bits & 1;
            int b = bits >> 1 & 1;
            int c = bits >> 2;
            x.set(0, a);
            x.set(1, b);
            x.set(2, c);
            int[] want = {1 - a, a & b, a | b, a ^ b, a == 1 ? b : c};
            for (int kind = 0; kind < 5; kind++) {
                due("sure gate " + kind + " of " + bits, x.sure(3 + kind), want[kind]);
                due("told gate " + kind + " of " + bits, x.told(3 + kind), want[kind]);
            }
        }
        for (int i = 8; i < 32; i++) {
            due("gate", x.gate(0, i - 1, 0, 0), i);
        }
        due("node 33", x.gate(0, 31, 0, 0), FULL);
        due("kind ahead of full", x.gate(9, 31, 0, 0), OUTSIDE);
        due("node ahead of full", x.gate(0, 32, 0, 0), UNKNOWN);
    }

    private static void stores() {
        FirstStates x = new FirstStates();
        due("line 4", x.store(4, 0), UNKNOWN);
        due("line -1", x.store(-1, 7), UNKNOWN);
        due("begin 2", x.store(NONE, 2), OUTSIDE);
        due("begin -1", x.store(0, -1), OUTSIDE);
        due("count(1)", x.count(1), 0);
        for (int i = 0; i < 6; i++) {
            due("store", x.store(i < 4 ? i : NONE, i & 1), i);
            due("reads itself", x.about(i, 4), i);
            due("possible", x.possible(), 2 << i);
        }
        due("the seventh", x.store(NONE, 0), FULL);
        due("line ahead of full", x.store(4, 0), UNKNOWN);
        due("begin ahead of full", x.store(0, 2), OUTSIDE);
        FirstStates y = new FirstStates();
        for (int i = 0; i < 32; i++) {
            y.fixed(0);
        }
        due("node 33", y.store(0, 0), FULL);
        due("possible", y.possible(), 1);
    }

    private static void readings() {
        FirstStates x = new FirstStates();
        x.store(NONE, 0);
        x.fixed(1);
        x.gate(0, 0, 0, 0);
        due("unknown store", x.reads(3, 0), UNKNOWN);
        due("unknown node", x.reads(0, 3), UNKNOWN);
        due("unknown node ahead of state", x.reads(1, -1), UNKNOWN);
        due("no store", x.reads(1, 0), STATE);
        due("gate", x.reads(2, 0), STATE);
        due("reads", x.reads(0, 1), 0);
        due("tick", x.tick(1), 1);
        due("the same", x.reads(0, 1), 1);
        due("nothing begins again", x.count(3), 1);
        due("possible", x.possible(), 1);
        due("told", x.told(0), 1);
        due("another", x.reads(0, 2), 1);
        due("all begins again", x.count(3), 0);
        due("possible", x.possible(), 2);
        due("told", x.told(0), 2);
        due("back", x.reads(0, 0), 2);
        due("tick", x.tick(1), 2);
    }

    private static void abouts() {
        FirstStates x = new FirstStates();
        x.input();
        x.fixed(1);
        x.gate(4, 0, 1, 1);
        x.store(2, 1);
        x.store(NONE, 0);
        x.reads(3, 2);
        int[][] want = {
            {0, NONE, NONE, NONE, NONE}, {1, NONE, NONE, NONE, NONE}, {2, 4, NONE, NONE, NONE},
            {3, NONE, 2, 1, 2}, {3, NONE, NONE, 0, 4}
        };
        for (int node = 0; node < 5; node++) {
            for (int what = 0; what < 5; what++) {
                due("about(" + node + ", " + what + ")", x.about(node, what), want[node][what]);
            }
            due("what 5", x.about(node, 5), OUTSIDE);
            due("what -1", x.about(node, -1), OUTSIDE);
        }
        due("unknown", x.about(5, 0), UNKNOWN);
        due("unknown first", x.about(-1, 9), UNKNOWN);
        for (int kind = 0; kind < 5; kind++) {
            due("kind", x.about(x.gate(kind, 0, 1, 2), 1), kind);
        }
    }

    private static void lines() {
        FirstStates x = new FirstStates();
        due("line 4", x.line(4, true), UNKNOWN);
        due("line -1", x.line(-1, true), UNKNOWN);
        due("line NONE", x.line(NONE, true), UNKNOWN);
        due("on", x.line(3, true), 0);
        due("on again", x.line(3, true), 1);
        due("count(4)", x.count(4), 1);
        due("off", x.line(3, false), 1);
        due("off again", x.line(3, false), 0);
        x.store(1, 1);
        x.line(1, true);
        due("tick", x.tick(1), 1);
        due("row", x.row(0), 1);
        x.line(0, true);
        due("no new beginning", x.count(3), 1);
    }

    private static void settings() {
        FirstStates x = new FirstStates();
        x.input();
        x.store(NONE, 0);
        x.fixed(0);
        x.gate(0, 0, 0, 0);
        due("unknown", x.set(4, 9), UNKNOWN);
        due("store", x.set(1, 9), STATE);
        due("fixed", x.set(2, 0), STATE);
        due("gate", x.set(3, 0), STATE);
        due("3", x.set(0, 3), OUTSIDE);
        due("-1", x.set(0, -1), OUTSIDE);
        due("1", x.set(0, 1), 2);
        due("sure", x.sure(0), 1);
        due("told", x.told(3), 0);
        due("0", x.set(0, 0), 1);
        due("sure", x.sure(0), 0);
        x.reads(1, 0);
        x.tick(1);
        due("open", x.set(0, 2), 0);
        due("no new beginning", x.count(3), 1);
        due("possible", x.possible(), 1);
        due("sure", x.sure(0), 2);
    }

    private static void ticks() {
        FirstStates x = shifting();
        due("tick(0)", x.tick(0), OUTSIDE);
        due("tick(65)", x.tick(65), OUTSIDE);
        due("tick(-1)", x.tick(-1), OUTSIDE);
        due("tick(1)", x.tick(1), 4);
        due("tick(1)", x.tick(1), 2);
        due("tick(64)", x.tick(64), 1);
        due("row(0)", x.row(0), 7);
        due("count(3)", x.count(3), 66);
        FirstStates y = new FirstStates();
        y.store(NONE, 0);
        y.store(NONE, 0);
        y.reads(0, 1);
        y.reads(1, 0);
        due("stores swap at once", y.next(1), 2);
        y.input();
        y.reads(0, 2);
        y.reads(1, 2);
        due("one open input at two stores", y.tick(1), 2);
        due("row(0)", y.row(0), 0);
        due("row(1)", y.row(1), 3);
        y.input();
        y.reads(1, 3);
        due("two open inputs", y.tick(1), 4);
    }

    /** Three stores without a line, the first reads 1 and each other one the store ahead of it. */
    private static FirstStates shifting() {
        FirstStates x = new FirstStates();
        x.store(NONE, 0);
        x.store(NONE, 0);
        x.store(NONE, 0);
        x.fixed(1);
        x.reads(0, 3);
        x.reads(1, 0);
        x.reads(2, 1);
        return x;
    }

    private static void freshness() {
        FirstStates x = shifting();
        due("fresh", x.fresh(), 0);
        x.tick(2);
        x.tick(3);
        due("fresh", x.fresh(), 5);
        due("fresh again", x.fresh(), 0);
        due("possible", x.possible(), 8);
        due("told", x.told(0), 2);
        due("known", x.known(true), 0);
        x.tick(1);
        x.input();
        due("a node came", x.fresh(), 0);
        due("told", x.told(0), 2);
    }

    private static void possibleRows() {
        FirstStates x = shifting();
        due("possible", x.possible(), 8);
        x.tick(1);
        due("possible", x.possible(), 4);
        x.fixed(0);
        due("possible", x.possible(), 8);
        x.tick(3);
        due("possible", x.possible(), 1);
        x.reads(0, 4);
        due("possible", x.possible(), 8);
        x.tick(3);
        x.gate(0, 0, 0, 0);
        due("possible", x.possible(), 8);
        x.tick(3);
        x.store(0, 0);
        due("possible", x.possible(), 16);
        x.tick(3);
        x.fixed(2);
        x.gate(9, 0, 0, 0);
        x.store(4, 0);
        x.reads(0, 99);
        due("what is refused changes nothing", x.possible(), 2);
    }

    private static void rowsInOrder() {
        FirstStates x = shifting();
        x.tick(1);
        int[] want = {1, 3, 5, 7, NONE};
        for (int i = 0; i < 5; i++) {
            due("row(" + i + ")", x.row(i), want[i]);
        }
        due("row(-1)", x.row(-1), NONE);
        due("row(least)", x.row(Integer.MIN_VALUE), NONE);
        due("row(greatest)", x.row(Integer.MAX_VALUE), NONE);
        x.store(0, 0);
        x.store(0, 0);
        x.store(0, 0);
        due("row(63)", x.row(63), 63);
        due("row(64)", x.row(64), NONE);
    }

    private static void sureNodes() {
        FirstStates x = shifting();
        x.gate(0, 0, 0, 0);
        x.gate(2, 0, 4, 0);
        x.input();
        x.gate(0, 6, 0, 0);
        x.gate(1, 6, 7, 0);
        due("unknown", x.sure(9), UNKNOWN);
        due("unknown", x.sure(-1), UNKNOWN);
        due("a store", x.sure(0), 2);
        due("its NOT", x.sure(4), 2);
        due("both together", x.sure(5), 1);
        due("an open input", x.sure(6), 2);
        due("an open input and its NOT", x.sure(8), 0);
        x.tick(1);
        due("a store", x.sure(0), 1);
        due("its NOT", x.sure(4), 0);
        due("the next", x.sure(1), 2);
        x.set(6, 0);
        due("a set input", x.sure(6), 0);
        due("its NOT", x.sure(7), 1);
    }

    private static void toldNodes() {
        FirstStates x = new FirstStates();
        x.fixed(0);
        x.fixed(1);
        x.input();
        due("unknown", x.told(3), UNKNOWN);
        due("unknown", x.told(-1), UNKNOWN);
        int[] not = {1, 0, 2};
        int[][] and = {{0, 0, 0}, {0, 1, 2}, {0, 2, 2}};
        int[][] or = {{0, 1, 2}, {1, 1, 1}, {2, 1, 2}};
        int[][] xor = {{0, 1, 2}, {1, 0, 2}, {2, 2, 2}};
        for (int a = 0; a < 3; a++) {
            due("NOT " + a, toldOf(0, a, 0, 0), not[a]);
            for (int b = 0; b < 3; b++) {
                due(a + " AND " + b, toldOf(1, a, b, 0), and[a][b]);
                due(a + " OR " + b, toldOf(2, a, b, 0), or[a][b]);
                due(a + " XOR " + b, toldOf(3, a, b, 0), xor[a][b]);
                for (int c = 0; c < 3; c++) {
                    int choice = a == 1 ? b : a == 0 ? c : b == c ? b : 2;
                    due("CHOICE " + a + b + c, toldOf(4, a, b, c), choice);
                }
            }
        }
        FirstStates y = shifting();
        y.gate(0, 0, 0, 0);
        y.gate(3, 0, 0, 0);
        due("sure of it", y.sure(5), 0);
        due("not told by parts", y.told(5), 2);
        y.tick(1);
        due("told at the tick", y.told(0), 1);
        due("told of a gate", y.told(4), 0);
        due("told of the next", y.told(1), 2);
        y.reads(0, 5);
        y.tick(2);
        due("not told", y.told(0), 2);
        due("sure", y.sure(0), 0);
        FirstStates z = new FirstStates();
        z.store(1, 1);
        z.line(1, true);
        due("not yet", z.told(0), 2);
        z.tick(1);
        due("begun", z.told(0), 1);
    }

    /** Nodes 0 and 1 are fixed so, node 2 is open: the number of a node is what it is told. */
    private static int toldOf(int kind, int a, int b, int c) {
        FirstStates x = new FirstStates();
        x.fixed(0);
        x.fixed(1);
        x.input();
        return x.told(x.gate(kind, a, b, c));
    }

    private static void knownStores() {
        FirstStates x = shifting();
        x.gate(3, 0, 0, 0);
        x.reads(2, 4);
        due("at first", x.known(false), 0);
        due("at first, by parts", x.known(true), 0);
        x.tick(1);
        due("known", x.known(false), 2);
        due("known by parts", x.known(true), 1);
        x.tick(1);
        due("known", x.known(false), 3);
        due("known by parts", x.known(true), 3);
    }

    private static void settling() {
        FirstStates x = shifting();
        due("settles", x.settles(), 3);
        due("nothing changes", x.possible(), 8);
        due("nothing changes", x.count(3), 0);
        due("nothing changes", x.told(0), 2);
        x.tick(2);
        due("settles", x.settles(), 1);
        x.tick(1);
        due("settles", x.settles(), 0);
        x.input();
        x.reads(0, 4);
        due("open", x.settles(), NONE);
        x.set(4, 1);
        due("set", x.settles(), 3);
        FirstStates y = new FirstStates();
        y.store(0, 1);
        due("off", y.settles(), NONE);
        y.line(0, true);
        due("on", y.settles(), 1);
        FirstStates z = countingDown();
        due("the longest way", z.settles(), 63);
        z.tick(62);
        due("one ahead of it", z.possible(), 2);
        due("one more", z.settles(), 1);
    }

    /** Six stores that count down to row 0 and stay there. */
    private static FirstStates countingDown() {
        FirstStates x = new FirstStates();
        for (int i = 0; i < 6; i++) {
            x.store(NONE, 1);
        }
        int borrow = 0;
        for (int i = 1; i < 6; i++) {
            borrow = x.gate(2, borrow, i, 0);
        }
        for (int i = 0; i < 6; i++) {
            x.reads(i, x.gate(3, i, borrow, 0));
            if (i < 5) {
                borrow = x.gate(1, borrow, x.gate(0, i, 0, 0), 0);
            }
        }
        return x;
    }

    private static void nextRows() {
        FirstStates x = shifting();
        int[] want = {1, 3, 5, 7, 1, 3, 5, 7};
        for (int row = 0; row < 8; row++) {
            due("next(" + row + ")", x.next(row), want[row]);
        }
        due("next(8)", x.next(8), OUTSIDE);
        due("next(-1)", x.next(-1), OUTSIDE);
        due("nothing changes", x.possible(), 8);
        x.tick(3);
        due("a row that is not possible", x.next(0), 1);
        x.input();
        x.reads(0, 4);
        due("open is 0", x.next(7), 6);
        x.set(4, 1);
        due("set to 1", x.next(0), 1);
        x.store(2, 1);
        x.line(2, true);
        due("begun", x.next(0), 9);
        x.store(2, 0);
        due("begun with 0", x.next(16), 9);
        FirstStates y = new FirstStates();
        y.store(0, 0);
        y.store(1, 1);
        y.line(0, true);
        due("the first begun with 0", y.next(3), 2);
        due("the second's line is off", y.next(1), 0);
    }

    private static void leaning() {
        FirstStates x = new FirstStates();
        x.store(0, 0);
        x.store(1, 0);
        x.store(2, 0);
        x.input();
        x.gate(1, 0, 3, 0);
        x.gate(4, 3, 3, 4);
        due("unknown", x.depends(6, 0), UNKNOWN);
        due("unknown", x.depends(3, 6), UNKNOWN);
        due("unknown", x.depends(0, -1), UNKNOWN);
        due("input", x.depends(3, 0), STATE);
        due("gate", x.depends(0, 4), STATE);
        due("itself", x.depends(0, 0), 1);
        due("not another", x.depends(0, 1), 0);
        x.reads(1, 5);
        due("by gates", x.depends(1, 0), 1);
        due("itself no more", x.depends(1, 1), 0);
        x.reads(2, 1);
        due("reads", x.depends(2, 1), 1);
        due("not through a store", x.depends(2, 0), 0);
        x.reads(0, 3);
        due("input", x.depends(0, 0), 0);
        x.gate(0, 2, 0, 0);
        x.reads(0, 6);
        due("NOT", x.depends(0, 2), 1);
        due("NOT has no b", x.depends(0, 0), 0);
    }

    private static void crossingCounts() {
        FirstStates x = new FirstStates();
        x.store(0, 0);
        x.store(0, 0);
        x.store(NONE, 0);
        x.store(NONE, 0);
        due("none", x.crossings(), 0);
        x.reads(1, 0);
        due("of the same line", x.crossings(), 0);
        x.reads(3, 2);
        due("of none both", x.crossings(), 0);
        x.reads(2, 0);
        due("of none and a line", x.crossings(), 1);
        x.gate(2, 2, 3, 0);
        x.reads(0, 4);
        due("two by one gate", x.crossings(), 3);
    }

    private static void crossingsInOrder() {
        FirstStates x = new FirstStates();
        x.fixed(0);
        x.store(1, 0);
        x.store(NONE, 0);
        x.store(3, 0);
        x.gate(1, 1, 2, 0);
        x.reads(1, 4);
        x.reads(2, 4);
        x.reads(3, 4);
        int[] want = {102, 103, 201, 203, NONE};
        for (int i = 0; i < 5; i++) {
            due("crossing(" + i + ")", x.crossing(i), want[i]);
        }
        due("crossings", x.crossings(), 4);
        due("crossing(-1)", x.crossing(-1), NONE);
        due("crossing(greatest)", x.crossing(Integer.MAX_VALUE), NONE);
    }

    private static void linesAlone() {
        FirstStates x = new FirstStates();
        x.store(0, 1);
        x.store(1, 0);
        x.input();
        x.gate(1, 0, 2, 0);
        x.reads(1, 0);
        due("line 4", x.alone(4), UNKNOWN);
        due("line NONE", x.alone(NONE), UNKNOWN);
        x.line(1, true);
        due("line 0", x.alone(0), 2);
        due("line 1", x.alone(1), NONE);
        due("line 2", x.alone(2), NONE);
        x.set(2, 0);
        due("tick", x.tick(1), 2);
        x.reads(1, 3);
        due("inputs are open", x.alone(0), NONE);
        due("line 1 is on", x.line(1, true), 1);
        due("line 0 is off", x.line(0, false), 0);
        due("the input is set", x.set(2, 0), 0);
        due("all rows", x.possible(), 4);
        FirstStates y = shifting();
        y.tick(3);
        due("all rows at first", y.alone(0), 3);
        for (int line = 0; line < 4; line++) {
            FirstStates z = new FirstStates();
            z.store(line, 1);
            for (int other = 0; other < 4; other++) {
                due("store of line " + line, z.alone(other), other == line ? 1 : NONE);
            }
        }
        due("the longest way", countingDown().alone(0), 63);
        due("nothing changes", y.count(3), 3);
    }

    private static void mending() {
        FirstStates x = shifting();
        due("mend(0)", x.mend(0), OUTSIDE);
        due("mend(65)", x.mend(65), OUTSIDE);
        due("mend(1)", x.mend(1), 6);
        due("mend(2)", x.mend(2), 2);
        due("mend(3)", x.mend(3), 0);
        due("the longest way", countingDown().mend(63), 0);
        due("one tick less", countingDown().mend(62) > 0 ? 1 : 0, 1);
        x.tick(3);
        due("all rows at first", x.mend(2), 2);
        due("nothing changes", x.possible(), 1);
        FirstStates y = new FirstStates();
        y.store(0, 0);
        y.store(NONE, 1);
        y.store(NONE, 1);
        y.gate(2, 1, 2, 0);
        y.reads(1, 3);
        y.reads(2, 3);
        due("of as many the least", y.mend(2), 2);
        due("lines stay off", y.count(4), 0);
        due("all of them at one tick", y.mend(1), 6);
        y.input();
        y.reads(1, 4);
        due("open", y.mend(64), 2);
        due("open, at one tick", y.mend(1), 6);
        due("set", y.set(4, 1), 2);
        due("set to 1", y.mend(64), 0);
    }

    private static void needs() {
        FirstStates x = new FirstStates();
        for (int pair = 0; pair < 16; pair++) {
            due("at first", x.need(pair / 4, pair % 4, NONE), NONE);
        }
        due("line a", x.need(4, 0, 99), UNKNOWN);
        due("line b", x.need(0, -1, 0), UNKNOWN);
        due("21", x.need(0, 1, 21), OUTSIDE);
        due("-1", x.need(0, 1, -1), OUTSIDE);
        due("count(5)", x.count(5), 0);
        due("20", x.need(0, 1, 20), NONE);
        due("0 instead", x.need(0, 1, 0), 20);
        due("the other way", x.need(1, 0, 0), NONE);
        due("count(5)", x.count(5), 2);
        due("none", x.need(0, 1, NONE), 0);
        due("none again", x.need(0, 1, NONE), NONE);
        due("count(5)", x.count(5), 1);
    }

    private static void going() {
        FirstStates x = new FirstStates();
        due("line 4", x.go(4), UNKNOWN);
        due("line -1", x.go(-1), UNKNOWN);
        x.need(0, 1, 20);
        x.need(1, 2, 20);
        x.need(2, 3, 20);
        due("go(0)", x.go(0), 60);
        due("go(1)", x.go(1), 40);
        due("go(2)", x.go(2), 20);
        due("go(3)", x.go(3), 0);
        x.need(0, 3, 7);
        due("the latest counts", x.go(0), 60);
        x.need(2, 1, 0);
        due("a ring with ticks", x.go(2), NONE);
        due("on the ring", x.go(1), NONE);
        due("behind the ring", x.go(0), NONE);
        due("ahead of the ring", x.go(3), 0);
        x.need(1, 2, 0);
        due("a ring without ticks", x.go(1), 20);
        due("behind it", x.go(0), 40);
        x.need(3, 3, 0);
        due("itself without ticks", x.go(3), 0);
        x.need(3, 3, 1);
        due("itself with ticks", x.go(3), NONE);
        due("all behind", x.go(0), NONE);
        x.line(0, true);
        x.need(3, 3, NONE);
        due("the lines' own being on is another thing", x.go(3), 0);
    }

    private static void goneLines() {
        FirstStates x = new FirstStates();
        x.need(1, 0, 5);
        x.need(2, 0, 5);
        x.need(3, 3, 2);
        due("gone(-1)", x.gone(-1), OUTSIDE);
        due("gone(0)", x.gone(0), 1);
        due("gone(4)", x.gone(4), 1);
        due("gone(5)", x.gone(5), 3);
        due("gone(greatest)", x.gone(Integer.MAX_VALUE), 3);
    }

    private static void counts() {
        FirstStates x = new FirstStates();
        x.input();
        x.input();
        x.fixed(0);
        x.store(0, 0);
        x.store(0, 0);
        x.store(0, 0);
        x.gate(0, 0, 0, 0);
        x.tick(9);
        x.line(0, true);
        x.line(3, true);
        x.need(0, 1, 0);
        int[] want = {7, 3, 2, 9, 2, 1};
        for (int what = 0; what < 6; what++) {
            due("count(" + what + ")", x.count(what), want[what]);
        }
        due("count(6)", x.count(6), OUTSIDE);
        due("count(-1)", x.count(-1), OUTSIDE);
    }

    /** 32 nodes, 6 stores, 4 inputs: every call has its whole room to look at. */
    private static void fullCircuit() {
        FirstStates x = new FirstStates();
        for (int i = 0; i < 4; i++) {
            x.input();
        }
        for (int i = 4; i < 10; i++) {
            x.store(i < 8 ? i - 4 : NONE, i & 1);
        }
        for (int i = 10; i < 32; i++) {
            due("gate", x.gate(3, i - 10, i - 1, 0), i);
        }
        for (int i = 4; i < 10; i++) {
            due("reads", x.reads(i, 31), i);
        }
        due("possible", x.possible(), 64);
        due("sure(31)", x.sure(31), 2);
        due("told(31)", x.told(31), 2);
        due("settles", x.settles(), NONE);
        due("alone", x.alone(3), NONE);
        due("depends", x.depends(9, 4) + x.depends(9, 9) > 0 ? 1 : 0, 1);
        due("known", x.known(true), 0);
        due("tick", x.tick(64), 2);
        due("row(0)", x.row(0), 0);
        due("row(1)", x.row(1), 63);
        for (int line = 0; line < 4; line++) {
            x.line(line, true);
        }
        due("tick", x.tick(1), 2);
        due("row(0)", x.row(0), 10);
        due("row(1)", x.row(1), 58);
        due("known", x.known(false), 4);
        due("known by parts", x.known(true), 4);
        due("mend", x.mend(64), 48);
        due("next(63) differs by none of the lined", x.next(63) & 15, 10);
        due("next(64)", x.next(64), OUTSIDE);
        for (int i = 0; i < 4; i++) {
            x.set(i, 1);
        }
        due("sure of a set input", x.sure(3), 1);
        due("a tick", x.tick(1) <= 2 ? 1 : 0, 1);
    }
}

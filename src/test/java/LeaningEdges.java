/** Promises 19 to 23: what leans on what. */
final class LeaningEdges {
    private static final int UNKNOWN = -1, OUTSIDE = -2, STATE = -3, NONE = -9;

    private LeaningEdges() {
    }

    private static void due(String call, long got, long want) {
        EdgeTests.due(call, got, want);
    }

    // ---- promise 19: depends

    @Holds(promise = 19, words = "Whether a STORE DEPENDS on another one: 1, 0.")
    static void dependsOnAnotherOne() {
        FirstStates x = Circuits.shifting();
        int[][] want = {{0, 0, 0}, {1, 0, 0}, {0, 1, 0}};
        for (int store = 0; store < 3; store++) {
            for (int other = 0; other < 3; other++) {
                due("depends(" + store + ", " + other + ")", x.depends(store, other), want[store][other]);
            }
        }
        due("itself", Circuits.freeStores(1).depends(0, 0), 1);
    }

    @Holds(promise = 19, words = "UNKNOWN;")
    static void dependsOfNoSuchNode() {
        FirstStates x = Circuits.ofEachSort();
        for (int node : new int[] {-1, 5, 31, 32, NONE}) {
            due("depends(" + node + ", 3)", x.depends(node, 3), UNKNOWN);
            due("depends(3, " + node + ")", x.depends(3, node), UNKNOWN);
        }
        for (int node : Circuits.FAR) {
            due("depends(" + node + ", 3)", x.depends(node, 3), UNKNOWN);
            due("depends(3, " + node + ")", x.depends(3, node), UNKNOWN);
        }
    }

    @Holds(promise = 19, words = "STATE: one is no STORE.")
    static void dependsOfNoStore() {
        FirstStates x = Circuits.ofEachSort();
        for (int node = 0; node < 3; node++) {
            due("depends(" + node + ", 3)", x.depends(node, 3), STATE);
            due("depends(3, " + node + ")", x.depends(3, node), STATE);
            due("depends(" + node + ", " + node + ")", x.depends(node, node), STATE);
        }
        due("both are", x.depends(3, 4), 0);
    }

    @Holds(promise = 19, words = "UNKNOWN; STATE: one is no STORE.")
    static void dependsIsUnknownAheadOfState() {
        FirstStates x = Circuits.ofEachSort();
        due("the first no store, the second not there", x.depends(0, 5), UNKNOWN);
        due("the first not there, the second no store", x.depends(-1, 0), UNKNOWN);
    }

    // ---- promises 20 and 21: crossings

    /** Six stores of lines 0 to 3 and twice none, nodes 0, 2, .. 10, each behind all of them: 28 crossings. */
    private static FirstStates eachBehindAll() {
        FirstStates x = new FirstStates();
        int[] lines = {0, 1, 2, 3, NONE, NONE};
        int all = 0;
        for (int i = 0; i < 6; i++) {
            x.store(lines[i], 0);
            all = x.gate(3, all, 2 * i, 0);
        }
        for (int i = 0; i < 6; i++) {
            x.reads(2 * i, all);
        }
        return x;
    }

    @Holds(promise = 20, words = "How many CROSSINGS there are.")
    static void crossingsFromNoneToAll() {
        due("no stores", new FirstStates().crossings(), 0);
        due("each reads itself", Circuits.freeStores(6).crossings(), 0);
        due("each behind all", eachBehindAll().crossings(), 28);
        FirstStates x = new FirstStates();
        x.store(0, 0);
        x.store(1, 0);
        x.reads(0, 1);
        due("one way", x.crossings(), 1);
        x.reads(1, 0);
        due("both ways", x.crossings(), 2);
        x.reads(0, 0);
        x.reads(1, 1);
        due("none any more", x.crossings(), 0);
    }

    @Holds(promise = 21, words = {
        "The i-th, by the first, then the second one's NODE:", "100 times the first NODE, and the second;"})
    static void crossingsInOrder() {
        FirstStates x = eachBehindAll();
        int i = 0;
        for (int first = 0; first < 6; first++) {
            for (int second = 0; second < 6; second++) {
                if (first != second && Math.min(first, second) < 4) {
                    due("crossing(" + i + ")", x.crossing(i), 200 * first + 2 * second);
                    i++;
                }
            }
        }
        due("they are 28", i, 28);
        FirstStates y = Circuits.fixedNodes(30);
        y.store(NONE, 0);
        y.store(3, 0);
        y.reads(30, 31);
        due("of the last nodes", y.crossing(0), 3130);
        y.reads(31, 30);
        due("the first one's node first", y.crossing(0), 3031);
        due("the first one's node first", y.crossing(1), 3130);
    }

    @Holds(promise = 21, words = "NONE.")
    static void noSuchCrossing() {
        due("no stores", new FirstStates().crossing(0), NONE);
        due("each reads itself", Circuits.freeStores(6).crossing(0), NONE);
        FirstStates x = eachBehindAll();
        due("the last", x.crossing(27), 1006);
        due("crossing(28)", x.crossing(28), NONE);
        due("crossing(-1)", x.crossing(-1), NONE);
        for (int i : Circuits.FAR) {
            due("crossing(" + i + ")", x.crossing(i), NONE);
        }
    }

    // ---- promise 22: alone

    @Holds(promise = 22, words = "The fewest TICKS (0 to 64) behind which just one ROW is POSSIBLE,")
    static void aloneFrom0To63() {
        due("no stores", new FirstStates().alone(0), 0);
        due("no stores, but nodes", Circuits.fixedNodes(32).alone(3), 0);
        due("the longest way", Circuits.countingDown().alone(0), 63);
        FirstStates x = new FirstStates();
        for (int i = 0; i < 6; i++) {
            x.store(i == 0 ? 2 : NONE, 1);
            x.reads(i, Math.max(0, i - 1));
        }
        due("down a chain of six", x.alone(2), 6);
    }

    @Holds(promise = 22, words = "if that LINE alone is ON,")
    static void thatLineAlone() {
        FirstStates x = new FirstStates();
        x.store(0, 1);
        x.store(1, 1);
        for (int line = 0; line < 4; line++) {
            x.line(line, true);
            due("line " + line, x.alone(line), NONE);
        }
        due("both are on", x.settles(), 1);
        FirstStates y = new FirstStates();
        y.store(3, 1);
        due("it is off", y.alone(3), 1);
        due("another line", y.alone(0), NONE);
        y.line(0, true);
        y.line(3, true);
        due("another line is on", y.alone(0), NONE);
    }

    @Holds(promise = 22, words = "all INPUTS are OPEN,")
    static void aloneWithAllInputsOpen() {
        FirstStates x = new FirstStates();
        x.store(0, 0);
        x.store(NONE, 0);
        x.input();
        x.reads(1, 2);
        for (int v = 0; v < 3; v++) {
            x.set(2, v);
            due("the input is " + v, x.alone(0), NONE);
        }
        x.reads(1, x.gate(1, 0, 2, 0));
        for (int v = 0; v < 3; v++) {
            x.set(2, v);
            due("the input is " + v + ", and the other 0", x.alone(0), 2);
        }
    }

    @Holds(promise = 22, words = "and all ROWS are POSSIBLE at first;")
    static void aloneFromAllRows() {
        FirstStates x = Circuits.shifting();
        due("at first", x.alone(1), 3);
        x.tick(2);
        due("two rows are left", x.alone(1), 3);
        x.tick(1);
        due("one row is left", x.alone(1), 3);
        FirstStates y = new FirstStates();
        y.store(0, 1);
        y.line(0, true);
        y.tick(1);
        due("one row is left, though the line is another one", y.alone(1), NONE);
    }

    @Holds(promise = 22, words = "NONE: it does not come to that.")
    static void aloneNever() {
        for (int line = 0; line < 4; line++) {
            due("six that stay", Circuits.freeStores(6).alone(line), NONE);
            due("six that count up", Circuits.countingUp().alone(line), line == 0 ? 1 : NONE);
        }
    }

    @Holds(promise = 22, words = "Nothing changes.")
    static void aloneChangesNothing() {
        FirstStates x = Circuits.busy(2, 6, 24);
        FirstStates twin = Circuits.busy(2, 6, 24);
        for (int line = 0; line < 4; line++) {
            x.alone(line);
        }
        due("alike", Circuits.lookAt(x).equals(Circuits.lookAt(twin)) ? 1 : 0, 1);
        FirstStates y = new FirstStates();
        y.store(1, 1);
        y.input();
        y.reads(0, 1);
        y.set(1, 0);
        y.tick(1);
        y.alone(1);
        due("the row", y.row(0), 0);
        due("the line", y.count(4), 0);
        due("the input", y.sure(1), 0);
        due("told", y.told(0), 0);
        due("count(3)", y.count(3), 1);
        due("one more tick", y.tick(1), 1);
        due("its row", y.row(0), 0);
    }

    @Holds(promise = 22, words = "UNKNOWN.")
    static void aloneOfNoSuchLine() {
        FirstStates x = Circuits.ofEachSort();
        for (int line : new int[] {-1, 4, 32, NONE}) {
            due("alone(" + line + ")", x.alone(line), UNKNOWN);
        }
        for (int line : Circuits.FAR) {
            due("alone(" + line + ")", x.alone(line), UNKNOWN);
        }
    }

    // ---- promise 23: mend

    @Holds(promise = 23, words = "The fewest STORES without a LINE")
    static void mendByStoresWithoutALineAlone() {
        FirstStates x = new FirstStates();
        x.store(0, 0);
        x.store(NONE, 0);
        x.store(3, 1);
        x.store(NONE, 1);
        due("those that have none", x.mend(1), 0b1010);
        due("no stores", new FirstStates().mend(1), 0);
        FirstStates y = Circuits.countingUp();
        due("all have a line", y.mend(1), 0);
    }

    @Holds(promise = 23, words = "(as a set of bits of ROWS;")
    static void mendAnswersBitsOfRows() {
        FirstStates x = Circuits.fixedNodes(20);
        for (int stores = 1; stores <= 6; stores++) {
            x.store(NONE, 0);
            due("of " + stores + " that stay", x.mend(64), (1 << stores) - 1);
        }
        x.reads(22, 0);
        due("but the third", x.mend(64), 0b111011);
        x.reads(20, 0);
        due("but the first and the third", x.mend(64), 0b111010);
    }

    @Holds(promise = 23, words = "of as many the least number)")
    static void mendOfAsManyTheLeast() {
        FirstStates x = Circuits.freeStores(6);
        for (int i = 0; i < 6; i++) {
            x.reads(i, (i + 5) % 6);
        }
        due("any one of a ring of six, six ticks", x.mend(6), 1);
        due("two of them, three ticks: 1 and 4", x.mend(3), 0b001001);
        due("three of them, two ticks: 1, 3 and 5", x.mend(2), 0b010101);
        due("all of them, one tick", x.mend(1), 0b111111);
    }

    @Holds(promise = 23, words = "The fewest STORES without a LINE")
    static void mendByFewestAheadOfTheLeast() {
        FirstStates x = Circuits.freeStores(3);
        x.reads(0, 2);
        x.reads(1, 2);
        x.reads(2, x.gate(3, 0, 1, 0));
        due("the third alone, 4, is fewer than the first and second, 3", x.mend(2), 4);
        due("none, three ticks", x.mend(3), 0);
    }

    @Holds(promise = 23, words = "that, if they were reset too,")
    static void mendResetsToTheirBegins() {
        for (int begin = 0; begin < 2; begin++) {
            FirstStates x = new FirstStates();
            x.store(NONE, begin);
            x.store(NONE, 0);
            x.reads(1, x.gate(1, 0, 1, 0));
            due("begin " + begin + ": the other one stays at begin 1", x.mend(64), begin == 0 ? 1 : 3);
            due("nothing is reset", x.next(begin == 0 ? 3 : 0), begin == 0 ? 3 : 0);
        }
    }

    @Holds(promise = 23, words = "with all LINES ON")
    static void mendWithAllLinesOn() {
        FirstStates x = new FirstStates();
        for (int line = 0; line < 4; line++) {
            x.store(line, 1);
        }
        x.store(NONE, 0);
        x.reads(4, 3);
        due("all lines off", x.mend(2), 0);
        due("one tick", x.mend(1), 0b10000);
        x.line(2, true);
        due("one line on", x.mend(2), 0);
        due("they stay as they are", x.count(4), 1);
    }

    @Holds(promise = 23, words = "and INPUTS as they are,")
    static void mendWithInputsAsTheyAre() {
        FirstStates x = Circuits.freeStores(1);
        x.input();
        x.reads(0, 1);
        due("open", x.mend(1), 1);
        x.set(1, 0);
        due("0", x.mend(1), 0);
        x.set(1, 1);
        due("1", x.mend(1), 0);
        x.set(1, 2);
        due("open again", x.mend(64), 1);
    }

    @Holds(promise = 23, words = "would leave just one ROW POSSIBLE n TICKS (1 to 64) behind all being POSSIBLE;")
    static void mendFrom1To64Ticks() {
        FirstStates x = Circuits.countingDown();
        due("mend(64)", x.mend(64), 0);
        due("mend(63)", x.mend(63), 0);
        due("mend(62)", x.mend(62), 1);
        due("mend(1)", Circuits.freeStores(6).mend(1), 63);
    }

    @Holds(promise = 23, words = "would leave just one ROW POSSIBLE n TICKS (1 to 64) behind all being POSSIBLE;")
    static void mendBehindAllBeingPossible() {
        FirstStates x = Circuits.shifting();
        x.tick(2);
        due("two rows are left: one tick", x.mend(1), 6);
        x.tick(1);
        due("one row is left: one tick", x.mend(1), 6);
        due("two ticks", x.mend(2), 2);
        due("three ticks", x.mend(3), 0);
        due("the row", x.row(0), 7);
        due("count(3)", x.count(3), 3);
    }

    @Holds(promise = 23, words = "NONE: no set does.")
    static void mendAlwaysHasASetThatDoes() {
        for (int stores = 0; stores <= 6; stores++) {
            FirstStates x = new FirstStates();
            x.input();
            for (int i = 0; i < stores; i++) {
                x.store(NONE, i & 1);
                x.reads(1 + i, 0);
            }
            due("all of them reset leave one row", x.mend(1), (1 << stores) - 1);
            due("and so at any later tick", x.mend(64), (1 << stores) - 1);
        }
    }

    @Holds(promise = 23, words = "OUTSIDE.")
    static void mendTooFewOrTooManyTicks() {
        FirstStates x = Circuits.shifting();
        for (int n : new int[] {0, 65, -1, NONE, Integer.MIN_VALUE, Integer.MAX_VALUE, 1 << 16}) {
            due("mend(" + n + ")", x.mend(n), OUTSIDE);
        }
        due("of no stores", new FirstStates().mend(0), OUTSIDE);
    }
}

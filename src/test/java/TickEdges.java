/** Promises 8 to 18: ticks. */
final class TickEdges {
    private static final int UNKNOWN = -1, OUTSIDE = -2, STATE = -3, FULL = -4, NONE = -9;

    private TickEdges() {
    }

    private static void due(String call, long got, long want) {
        EdgeTests.due(call, got, want);
    }

    // ---- promise 8: line

    @Holds(promise = 8, words = "A LINE is ON, or OFF:")
    static void lineIsOnOrOff() {
        FirstStates x = new FirstStates();
        for (int line = 0; line < 4; line++) {
            x.store(line, 1);
        }
        for (int lines = 0; lines < 16; lines++) {
            for (int line = 0; line < 4; line++) {
                x.line(line, (lines >> line & 1) != 0);
            }
            due("stores reset by lines " + lines, x.next(0), lines);
            due("count(4)", x.count(4), Integer.bitCount(lines));
        }
    }

    @Holds(promise = 8, words = "whether it was ON: 1, 0.")
    static void lineAnswersWhetherItWasOn() {
        FirstStates x = new FirstStates();
        for (int line = 0; line < 4; line++) {
            due("on", x.line(line, true), 0);
            due("on again", x.line(line, true), 1);
            due("off", x.line(line, false), 1);
            due("off again", x.line(line, false), 0);
            x.line(line, true);
        }
        due("count(4)", x.count(4), 4);
    }

    @Holds(promise = 8, words = "UNKNOWN.")
    static void noSuchLine() {
        FirstStates x = new FirstStates();
        for (int line : new int[] {-1, 4, 32, NONE}) {
            due("line(" + line + ", true)", x.line(line, true), UNKNOWN);
            due("line(" + line + ", false)", x.line(line, false), UNKNOWN);
        }
        for (int line : Circuits.FAR) {
            due("line(" + line + ", true)", x.line(line, true), UNKNOWN);
        }
        due("count(4)", x.count(4), 0);
    }

    // ---- promise 9: set

    @Holds(promise = 9, words = "An INPUT is 0, 1, or OPEN (2): what it was.")
    static void setAnswersWhatItWas() {
        FirstStates x = new FirstStates();
        for (int i = 0; i < 4; i++) {
            x.input();
        }
        int was = 2;
        for (int v : new int[] {0, 1, 2, 2, 1, 0, 0, 2}) {
            due("set(3, " + v + ")", x.set(3, v), was);
            due("sure(3)", x.sure(3), v);
            due("told(3)", x.told(3), v);
            due("another input stays open", x.sure(2), 2);
            was = v;
        }
    }

    @Holds(promise = 9, words = "UNKNOWN;")
    static void setOfNoSuchNode() {
        FirstStates x = Circuits.ofEachSort();
        for (int node : new int[] {-1, 5, 31, 32, NONE}) {
            due("set(" + node + ", 0)", x.set(node, 0), UNKNOWN);
        }
        for (int node : Circuits.FAR) {
            due("set(" + node + ", 0)", x.set(node, 0), UNKNOWN);
        }
    }

    @Holds(promise = 9, words = "STATE: it is no INPUT;")
    static void setOfNoInput() {
        FirstStates x = Circuits.ofEachSort();
        for (int node = 1; node < 5; node++) {
            for (int v = 0; v < 3; v++) {
                due("set(" + node + ", " + v + ")", x.set(node, v), STATE);
            }
        }
        due("the fixed one stays", x.sure(1), 1);
    }

    @Holds(promise = 9, words = "OUTSIDE.")
    static void setToWhatIsNotTold() {
        FirstStates x = Circuits.ofEachSort();
        for (int v : new int[] {-1, 3, NONE}) {
            due("set(0, " + v + ")", x.set(0, v), OUTSIDE);
        }
        for (int v : Circuits.FAR) {
            due("set(0, " + v + ")", x.set(0, v), OUTSIDE);
        }
        due("it was open", x.set(0, 1), 2);
    }

    @Holds(promise = 9, words = "UNKNOWN; STATE: it is no INPUT; OUTSIDE.")
    static void setRefusalsInTheirOrder() {
        FirstStates x = Circuits.ofEachSort();
        due("no such node ahead of the number", x.set(5, 3), UNKNOWN);
        due("no input ahead of the number", x.set(1, 3), STATE);
        due("no input ahead of the number", x.set(4, -1), STATE);
    }

    // ---- promise 10: tick

    @Holds(promise = 10, words = "A TICK, n times")
    static void tickNTimes() {
        FirstStates x = Circuits.countingUp();
        x.line(0, true);
        x.tick(1);
        x.line(0, false);
        int row = 0;
        for (int n : new int[] {1, 2, 3, 62, 63, 64}) {
            x.tick(n);
            row = (row + n) % 64;
            due("row behind tick(" + n + ")", x.row(0), row);
        }
        due("told by parts, too", x.told(0), row & 1);
        due("count(3)", x.count(3), 196);
    }

    @Holds(promise = 10, words = "(1 to 64):")
    static void tickOnceAnd64Times() {
        FirstStates x = Circuits.countingDown();
        due("tick(1)", x.tick(1), 63);
        due("tick(61)", x.tick(61), 2);
        x.fresh();
        due("tick(64)", x.tick(64), 1);
        due("count(3)", x.count(3), 64);
    }

    @Holds(promise = 10, words = "how many ROWS are POSSIBLE.")
    static void tickAnswersHowManyRowsArePossible() {
        FirstStates x = Circuits.shifting();
        due("tick", x.tick(1), 4);
        due("tick", x.tick(1), 2);
        due("tick", x.tick(1), 1);
        due("tick", x.tick(1), 1);
        due("of no stores", new FirstStates().tick(1), 1);
        due("of six that stay", Circuits.freeStores(6).tick(64), 64);
    }

    @Holds(promise = 10, words = "OUTSIDE.")
    static void tickTooFewOrTooMany() {
        FirstStates x = Circuits.shifting();
        for (int n : new int[] {0, 65, -1, NONE, Integer.MIN_VALUE, Integer.MAX_VALUE, 1 << 16}) {
            due("tick(" + n + ")", x.tick(n), OUTSIDE);
        }
        due("count(3)", x.count(3), 0);
        due("possible", x.possible(), 8);
    }

    // ---- promise 11: fresh

    @Holds(promise = 11, words = "All ROWS are POSSIBLE, no TICK was:")
    static void freshMakesAllRowsPossible() {
        FirstStates x = Circuits.shifting();
        x.tick(3);
        x.fresh();
        due("possible", x.possible(), 8);
        due("count(3)", x.count(3), 0);
        due("told", x.told(0), 2);
        FirstStates y = Circuits.countingDown();
        y.tick(64);
        y.fresh();
        due("all 64 rows", Circuits.rows(y), -1L);
    }

    @Holds(promise = 11, words = "how many TICKS there were.")
    static void freshAnswersHowManyTicksThereWere() {
        FirstStates x = Circuits.shifting();
        due("none", x.fresh(), 0);
        x.tick(64);
        x.tick(1);
        x.tick(0);
        due("64 and 1", x.fresh(), 65);
        due("none again", x.fresh(), 0);
        x.tick(2);
        x.fixed(0);
        due("a node came", x.fresh(), 0);
    }

    // ---- promise 12: possible

    @Holds(promise = 12, words = "How many ROWS are POSSIBLE.")
    static void possibleFromOneTo64() {
        due("no stores", new FirstStates().possible(), 1);
        due("one store", Circuits.freeStores(1).possible(), 2);
        due("five stores", Circuits.freeStores(5).possible(), 32);
        FirstStates x = Circuits.countingDown();
        for (int left = 64; left > 1; left--) {
            due("possible", x.possible(), left);
            x.tick(1);
        }
        due("possible", x.possible(), 1);
        x.tick(1);
        due("never none", x.possible(), 1);
    }

    // ---- promise 13: row

    @Holds(promise = 13, words = "The i-th of them, the least first;")
    static void rowsTheLeastFirst() {
        FirstStates x = Circuits.freeStores(6);
        for (int i = 0; i < 64; i++) {
            due("row(" + i + ")", x.row(i), i);
        }
        FirstStates y = Circuits.shifting();
        y.tick(1);
        for (int i = 0; i < 4; i++) {
            due("row(" + i + ")", y.row(i), 2 * i + 1);
        }
    }

    @Holds(promise = 13, words = "The i-th of them, the least first;")
    static void theGreatestRowAlone() {
        FirstStates x = new FirstStates();
        for (int i = 0; i < 6; i++) {
            x.store(0, 1);
        }
        x.line(0, true);
        x.tick(1);
        due("row(0)", x.row(0), 63);
        due("row(1)", x.row(1), NONE);
    }

    @Holds(promise = 13, words = "NONE.")
    static void noSuchRow() {
        FirstStates x = Circuits.shifting();
        due("row(7)", x.row(7), 7);
        due("row(8)", x.row(8), NONE);
        due("row(-1)", x.row(-1), NONE);
        for (int i : Circuits.FAR) {
            due("row(" + i + ")", x.row(i), NONE);
        }
        x.tick(3);
        due("row(0)", x.row(0), 7);
        due("row(1)", x.row(1), NONE);
        due("row(64) of 64", Circuits.freeStores(6).row(64), NONE);
        due("row(-64) of 64", Circuits.freeStores(6).row(-64), NONE);
    }

    // ---- promise 14: sure

    @Holds(promise = 14, words = "What a NODE is SURE of: 0, 1; 2: it is not.")
    static void sureOfEachSort() {
        FirstStates x = new FirstStates();
        int in = x.input();
        int one = x.fixed(1);
        int store = x.store(0, 1);
        int gate = x.gate(3, in, store, 0);
        due("an open input", x.sure(in), 2);
        due("a fixed one", x.sure(one), 1);
        due("a store", x.sure(store), 2);
        due("a gate", x.sure(gate), 2);
        x.line(0, true);
        due("lines do nothing ahead of a tick", x.sure(store), 2);
        x.tick(1);
        due("a store", x.sure(store), 1);
        due("a gate of an open input", x.sure(gate), 2);
        x.set(in, 1);
        due("an input", x.sure(in), 1);
        due("a gate", x.sure(gate), 0);
        x.set(in, 0);
        due("an input", x.sure(in), 0);
        due("a gate", x.sure(gate), 1);
        int never = x.gate(1, store, x.gate(0, store, 0, 0), 0);
        due("a store that came back to all rows", x.sure(store), 2);
        due("a gate of a store and its NOT", x.sure(never), 0);
    }

    @Holds(promise = 14, words = "UNKNOWN.")
    static void sureOfNoSuchNode() {
        FirstStates x = Circuits.ofEachSort();
        due("the last", x.sure(4), 2);
        for (int node : new int[] {-1, 5, 31, 32, NONE}) {
            due("sure(" + node + ")", x.sure(node), UNKNOWN);
        }
        for (int node : Circuits.FAR) {
            due("sure(" + node + ")", x.sure(node), UNKNOWN);
        }
        due("the 33rd of 32", Circuits.fixedNodes(32).sure(32), UNKNOWN);
    }

    // ---- promise 15: told

    @Holds(promise = 15, words = "What it is told by PARTS: 0, 1, 2.")
    static void toldOfEachSort() {
        FirstStates x = new FirstStates();
        int in = x.input();
        int one = x.fixed(1);
        int store = x.store(0, 1);
        int never = x.gate(1, store, x.gate(0, store, 0, 0), 0);
        due("an open input", x.told(in), 2);
        due("a fixed one", x.told(one), 1);
        due("a store", x.told(store), 2);
        due("parts do not see that both are one store", x.told(never), 2);
        due("it is sure", x.sure(never), 0);
        x.line(0, true);
        x.tick(1);
        due("a store", x.told(store), 1);
        due("a gate", x.told(never), 0);
    }

    @Holds(promise = 15, words = "UNKNOWN.")
    static void toldOfNoSuchNode() {
        FirstStates x = Circuits.ofEachSort();
        due("the last", x.told(4), 2);
        for (int node : new int[] {-1, 5, 31, 32, NONE}) {
            due("told(" + node + ")", x.told(node), UNKNOWN);
        }
        for (int node : Circuits.FAR) {
            due("told(" + node + ")", x.told(node), UNKNOWN);
        }
        due("the 33rd of 32", Circuits.fixedNodes(32).told(32), UNKNOWN);
    }

    // ---- promise 16: known

    @Holds(promise = 16, words = "How many STORES are SURE (parts = false),")
    static void knownStoresThatAreSure() {
        FirstStates x = toldNothingButSure();
        due("no stores", Circuits.fixedNodes(3).known(false), 0);
        due("at first", x.known(false), 0);
        x.tick(1);
        due("behind a tick", x.known(false), 6);
        due("all six at first", Circuits.freeStores(6).known(false), 0);
    }

    @Holds(promise = 16, words = "are told 0 or 1 by PARTS.")
    static void knownStoresThatAreTold() {
        FirstStates x = toldNothingButSure();
        due("no stores", Circuits.fixedNodes(3).known(true), 0);
        due("at first", x.known(true), 0);
        x.tick(1);
        due("behind a tick", x.known(true), 3);
        x.tick(1);
        due("all", x.known(true), 6);
        x.fresh();
        due("none", x.known(true), 0);
    }

    /** Six stores: 0 to 2 read 0, 1 and 1; 3 to 5 read what is 0 of a store and its NOT, which parts do not tell. */
    private static FirstStates toldNothingButSure() {
        FirstStates x = Circuits.freeStores(6);
        int zero = x.fixed(0);
        int one = x.fixed(1);
        int never = x.gate(1, 0, x.gate(0, 0, 0, 0), 0);
        x.reads(0, zero);
        x.reads(1, one);
        x.reads(2, one);
        for (int i = 3; i < 6; i++) {
            x.reads(i, never);
        }
        return x;
    }

    // ---- promise 17: settles

    @Holds(promise = 17, words = "The fewest TICKS (0 to 64) more,")
    static void settlesFrom0To63() {
        due("no stores", new FirstStates().settles(), 0);
        FirstStates x = Circuits.countingDown();
        for (int tick = 0; tick < 63; tick++) {
            due("behind " + tick, x.settles(), 63 - tick);
            x.tick(1);
        }
        due("one row", x.settles(), 0);
        x.tick(64);
        due("one row still", x.settles(), 0);
        due("count(3)", x.count(3), 127);
    }

    @Holds(promise = 17, words = "LINES and INPUTS as they are,")
    static void settlesWithLinesAndInputsAsTheyAre() {
        FirstStates x = new FirstStates();
        x.store(2, 1);
        x.store(NONE, 0);
        x.input();
        x.reads(1, 2);
        due("line off, input open", x.settles(), NONE);
        x.line(2, true);
        due("line on, input open", x.settles(), NONE);
        x.set(2, 1);
        due("line on, input 1", x.settles(), 1);
        x.line(2, false);
        due("line off, input 1", x.settles(), NONE);
        x.line(1, true);
        due("another line on", x.settles(), NONE);
        x.line(2, true);
        x.reads(1, 0);
        due("behind the store that is reset", x.settles(), 2);
    }

    @Holds(promise = 17, words = "till just one ROW is POSSIBLE;")
    static void settlesAtTheFirstTickWithOneRow() {
        FirstStates x = new FirstStates();
        x.store(NONE, 0);
        x.input();
        x.reads(0, 1);
        x.set(1, 0);
        due("one tick", x.settles(), 1);
        x.tick(1);
        x.set(1, 2);
        due("one row now, though not at the next tick", x.settles(), 0);
        due("tick", x.tick(1), 2);
        due("two rows", x.settles(), NONE);
    }

    @Holds(promise = 17, words = "NONE: it does not come to that.")
    static void settlesNever() {
        due("six that stay", Circuits.freeStores(6).settles(), NONE);
        FirstStates x = Circuits.freeStores(2);
        x.reads(0, 1);
        x.reads(1, 0);
        due("two that change places", x.settles(), NONE);
        x.reads(0, x.gate(2, 0, 1, 0));
        x.reads(1, 2);
        x.tick(1);
        due("two rows that stay", x.settles(), NONE);
    }

    @Holds(promise = 17, words = "(Nothing changes.)")
    static void settlesChangesNothing() {
        FirstStates x = Circuits.busy(2, 6, 24);
        FirstStates twin = Circuits.busy(2, 6, 24);
        x.settles();
        due("alike", Circuits.lookAt(x).equals(Circuits.lookAt(twin)) ? 1 : 0, 1);
        FirstStates y = Circuits.countingDown();
        due("settles", y.settles(), 63);
        due("settles again", y.settles(), 63);
        due("possible", y.possible(), 64);
        due("count(3)", y.count(3), 0);
        due("told", y.told(0), 2);
    }

    // ---- promise 18: next

    @Holds(promise = 18, words = "The ROW to which a ROW leads at a TICK,")
    static void nextOfEachRow() {
        FirstStates x = Circuits.countingUp();
        for (int row = 0; row < 64; row++) {
            due("next(" + row + ")", x.next(row), (row + 1) % 64);
        }
        FirstStates y = Circuits.shifting();
        y.tick(3);
        due("of a row that is not possible", y.next(4), 1);
        due("nothing changes", y.row(0), 7);
        due("nothing changes", y.count(3), 3);
        due("no stores", new FirstStates().next(0), 0);
    }

    @Holds(promise = 18, words = "LINES and INPUTS as they are")
    static void nextWithLinesAndInputsAsTheyAre() {
        FirstStates x = new FirstStates();
        x.store(0, 1);
        x.store(3, 0);
        x.input();
        x.reads(1, 2);
        x.set(2, 1);
        due("lines off", x.next(0), 2);
        x.line(0, true);
        due("line 0 on", x.next(0), 3);
        x.line(3, true);
        due("lines 0 and 3 on", x.next(2), 1);
        x.line(3, false);
        x.set(2, 0);
        due("the input 0", x.next(2), 1);
        FirstStates y = new FirstStates();
        for (int i = 0; i < 6; i++) {
            y.store(1, 0);
        }
        due("line 1 off", y.next(63), 63);
        y.line(1, true);
        due("line 1 on, all begin with 0", y.next(63), 0);
    }

    @Holds(promise = 18, words = "(OPEN ones 0).")
    static void nextWithOpenInputsAsZero() {
        FirstStates x = Circuits.freeStores(4);
        for (int i = 0; i < 4; i++) {
            x.input();
            x.reads(i, 4 + i);
        }
        due("all open", x.next(15), 0);
        x.set(6, 1);
        due("one is 1", x.next(0), 4);
        x.set(6, 2);
        due("open again", x.next(15), 0);
        due("they stay open", x.tick(1), 16);
        due("they stay open", x.sure(4), 2);
    }

    @Holds(promise = 18, words = "OUTSIDE: it is no ROW.")
    static void nextOfNoRow() {
        for (int stores = 0; stores <= 6; stores++) {
            FirstStates x = Circuits.freeStores(stores);
            int rows = 1 << stores;
            due("next(-1) of " + stores, x.next(-1), OUTSIDE);
            due("next(" + (rows - 1) + ") of " + stores, x.next(rows - 1), rows - 1);
            due("next(" + rows + ") of " + stores, x.next(rows), OUTSIDE);
            for (int row : Circuits.FAR) {
                due("next(" + row + ") of " + stores, x.next(row), OUTSIDE);
            }
        }
    }
}

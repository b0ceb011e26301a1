/** Promises 24 to 27: lines let go, and counts. */
final class LettingGoEdges {
    private static final int UNKNOWN = -1, OUTSIDE = -2, FULL = -4, NONE = -9;

    private LettingGoEdges() {
    }

    private static void due(String call, long got, long want) {
        EdgeTests.due(call, got, want);
    }

    // ---- promise 24: need

    @Holds(promise = 24, words = "A NEED of LINE a: behind LINE b by w TICKS at least")
    static void needOfEachPair() {
        for (int pair = 0; pair < 16; pair++) {
            FirstStates x = new FirstStates();
            int a = pair / 4;
            int b = pair % 4;
            x.need(a, b, 7);
            for (int line = 0; line < 4; line++) {
                due("need(" + a + ", " + b + ", 7), go(" + line + ")", x.go(line), line != a ? 0 : a == b ? NONE : 7);
            }
        }
    }

    @Holds(promise = 24, words = "(instead of what was told of these two;")
    static void needInsteadOfWhatWasTold() {
        FirstStates x = new FirstStates();
        x.need(1, 0, 20);
        x.need(1, 0, 3);
        due("fewer instead", x.go(1), 3);
        x.need(1, 0, 0);
        due("0 instead", x.go(1), 0);
        x.need(1, 0, 20);
        due("more instead", x.go(1), 20);
        due("it is one need", x.count(5), 1);
        x.need(1, 2, 4);
        due("of other two is another one", x.count(5), 2);
        due("the first one stands", x.go(1), 20);
    }

    @Holds(promise = 24, words = "w NONE: none):")
    static void needIsTakenAway() {
        FirstStates x = new FirstStates();
        x.need(1, 0, 20);
        x.need(1, 2, 0);
        due("taken away", x.need(1, 0, NONE), 20);
        due("go", x.go(1), 0);
        due("count(5)", x.count(5), 1);
        due("a need of 0 ticks taken away", x.need(1, 2, NONE), 0);
        due("count(5)", x.count(5), 0);
        due("none taken away", x.need(1, 2, NONE), NONE);
        due("count(5)", x.count(5), 0);
    }

    @Holds(promise = 24, words = "what was (NONE).")
    static void needAnswersWhatWas() {
        FirstStates x = new FirstStates();
        due("none", x.need(0, 3, 0), NONE);
        due("0", x.need(0, 3, 20), 0);
        due("20", x.need(0, 3, 5), 20);
        due("the other way round is another one", x.need(3, 0, 1), NONE);
        due("5", x.need(0, 3, 5), 5);
        due("a line behind itself", x.need(2, 2, 9), NONE);
        due("9", x.need(2, 2, NONE), 9);
    }

    @Holds(promise = 24, words = "UNKNOWN;")
    static void needOfNoSuchLine() {
        FirstStates x = new FirstStates();
        for (int line : new int[] {-1, 4, 16, NONE}) {
            due("need(" + line + ", 0, 1)", x.need(line, 0, 1), UNKNOWN);
            due("need(0, " + line + ", 1)", x.need(0, line, 1), UNKNOWN);
            due("need(3, " + line + ", 1)", x.need(3, line, 1), UNKNOWN);
        }
        for (int line : Circuits.FAR) {
            due("need(" + line + ", 0, 1)", x.need(line, 0, 1), UNKNOWN);
            due("need(0, " + line + ", 1)", x.need(0, line, 1), UNKNOWN);
        }
        due("count(5)", x.count(5), 0);
        due("lines 0 and 3", x.need(0, 3, 1), NONE);
        due("lines 3 and 0", x.need(3, 0, 1), NONE);
    }

    @Holds(promise = 24, words = "OUTSIDE.")
    static void needOfTicksThatAreNotTold() {
        FirstStates x = new FirstStates();
        for (int w : new int[] {-1, 21, -8, -10, UNKNOWN, OUTSIDE, FULL}) {
            due("need(0, 1, " + w + ")", x.need(0, 1, w), OUTSIDE);
        }
        for (int w : Circuits.FAR) {
            due("need(0, 1, " + w + ")", x.need(0, 1, w), OUTSIDE);
        }
        due("need(0, 1, 20)", x.need(0, 1, 20), NONE);
        due("need(0, 1, 0)", x.need(0, 1, 0), 20);
    }

    @Holds(promise = 24, words = "UNKNOWN; OUTSIDE.")
    static void needIsUnknownAheadOfOutside() {
        FirstStates x = new FirstStates();
        due("a", x.need(4, 0, 21), UNKNOWN);
        due("b", x.need(0, 4, -1), UNKNOWN);
    }

    // ---- promise 25: go

    /** Line 3 behind line 2 behind line 1 behind line 0, by 20 ticks each. */
    private static FirstStates chain() {
        FirstStates x = new FirstStates();
        for (int line = 1; line < 4; line++) {
            x.need(line, line - 1, 20);
        }
        return x;
    }

    @Holds(promise = 25, words = "The TICK at which a LINE is let go;")
    static void goFrom0To60() {
        FirstStates x = chain();
        for (int line = 0; line < 4; line++) {
            due("go(" + line + ")", x.go(line), 20 * line);
        }
        x.need(3, 0, 20);
        due("the longest way counts", x.go(3), 60);
        FirstStates y = new FirstStates();
        for (int line = 0; line < 3; line++) {
            y.need(line, line + 1, 20);
        }
        due("the other way round", y.go(0), 60);
        due("again", y.go(0), 60);
    }

    @Holds(promise = 25, words = "NONE: never.")
    static void goNever() {
        FirstStates x = chain();
        x.need(0, 3, 0);
        for (int line = 0; line < 4; line++) {
            due("on a ring of four, go(" + line + ")", x.go(line), NONE);
        }
        x.need(0, 3, NONE);
        x.need(2, 1, 0);
        x.need(1, 2, 0);
        due("a ring without ticks", x.go(1), 20);
        due("a ring without ticks", x.go(2), 20);
        due("behind it", x.go(3), 40);
        x.need(1, 1, 1);
        due("and one tick behind itself", x.go(1), NONE);
        due("on the ring with it", x.go(2), NONE);
        due("behind it", x.go(3), NONE);
        due("ahead of it", x.go(0), 0);
    }

    @Holds(promise = 25, words = "UNKNOWN.")
    static void goOfNoSuchLine() {
        FirstStates x = chain();
        for (int line : new int[] {-1, 4, 16, NONE}) {
            due("go(" + line + ")", x.go(line), UNKNOWN);
        }
        for (int line : Circuits.FAR) {
            due("go(" + line + ")", x.go(line), UNKNOWN);
        }
    }

    // ---- promise 26: gone

    @Holds(promise = 26, words = "How many LINES are let go at a TICK or ahead of it.")
    static void goneAtATickOrAheadOfIt() {
        FirstStates x = chain();
        int[] ticks = {0, 1, 19, 20, 21, 39, 40, 59, 60, 61, Integer.MAX_VALUE};
        int[] want = {1, 1, 1, 2, 2, 2, 3, 3, 4, 4, 4};
        for (int i = 0; i < ticks.length; i++) {
            due("gone(" + ticks[i] + ")", x.gone(ticks[i]), want[i]);
        }
        due("no needs", new FirstStates().gone(0), 4);
    }

    @Holds(promise = 26, words = "How many LINES are let go at a TICK or ahead of it.")
    static void goneWithoutThoseThatAreNeverLetGo() {
        FirstStates x = chain();
        x.need(2, 2, 20);
        due("gone(0)", x.gone(0), 1);
        due("gone(20)", x.gone(20), 2);
        due("gone(greatest)", x.gone(Integer.MAX_VALUE), 2);
        x.need(0, 0, 1);
        due("none at all", x.gone(Integer.MAX_VALUE), 0);
    }

    @Holds(promise = 26, words = "OUTSIDE: below 0.")
    static void goneBelow0() {
        FirstStates x = chain();
        due("gone(0)", x.gone(0), 1);
        for (int tick : new int[] {-1, -2, NONE, -64, Integer.MIN_VALUE}) {
            due("gone(" + tick + ")", x.gone(tick), OUTSIDE);
        }
        x.need(0, 3, 1);
        due("though none is let go", x.gone(NONE), OUTSIDE);
    }

    // ---- promise 27: count

    @Holds(promise = 27, words = "0 NODES,")
    static void countNodes() {
        due("none", new FirstStates().count(0), 0);
        due("of each sort", Circuits.ofEachSort().count(0), 5);
        FirstStates x = Circuits.fixedNodes(32);
        x.fixed(0);
        due("32 and one refused", x.count(0), 32);
    }

    @Holds(promise = 27, words = "1 STORES,")
    static void countStores() {
        due("none", Circuits.fixedNodes(3).count(1), 0);
        due("of each sort", Circuits.ofEachSort().count(1), 2);
        FirstStates x = Circuits.freeStores(6);
        x.store(NONE, 0);
        due("6 and one refused", x.count(1), 6);
    }

    @Holds(promise = 27, words = "2 INPUTS,")
    static void countInputs() {
        due("none", Circuits.fixedNodes(3).count(2), 0);
        FirstStates x = Circuits.ofEachSort();
        due("of each sort", x.count(2), 1);
        x.set(0, 1);
        due("set or open", x.count(2), 1);
        for (int i = 0; i < 4; i++) {
            x.input();
        }
        due("4 and one refused", x.count(2), 4);
    }

    @Holds(promise = 27, words = "3 TICKS since all ROWS were POSSIBLE,")
    static void countTicks() {
        FirstStates x = Circuits.shifting();
        due("none", x.count(3), 0);
        x.tick(1);
        x.tick(64);
        x.tick(65);
        due("65 and some refused", x.count(3), 65);
        x.fresh();
        due("behind fresh()", x.count(3), 0);
        x.tick(2);
        x.reads(0, 1);
        due("behind reads()", x.count(3), 0);
        x.tick(2);
        x.gate(0, 0, 0, 0);
        due("behind a node that came", x.count(3), 0);
        FirstStates y = Circuits.freeStores(2);
        y.tick(3);
        due("ticks behind which all rows are possible still", y.count(3), 3);
    }

    @Holds(promise = 27, words = "4 LINES that are ON,")
    static void countLines() {
        FirstStates x = new FirstStates();
        for (int line = 3; line >= 0; line--) {
            due("on", x.count(4), 3 - line);
            x.line(line, true);
            x.line(line, true);
        }
        due("all", x.count(4), 4);
        x.line(4, false);
        x.line(2, false);
        due("one off", x.count(4), 3);
        x.need(0, 1, 1);
        x.fresh();
        due("needs and fresh() change none", x.count(4), 3);
    }

    @Holds(promise = 27, words = "5 NEEDS.")
    static void countNeeds() {
        FirstStates x = new FirstStates();
        for (int pair = 0; pair < 16; pair++) {
            due("needs", x.count(5), pair);
            x.need(pair / 4, pair % 4, 0);
        }
        due("all sixteen", x.count(5), 16);
        x.need(2, 3, 20);
        due("one told anew", x.count(5), 16);
        x.need(2, 3, NONE);
        due("one taken away", x.count(5), 15);
        x.need(2, 3, NONE);
        due("and again", x.count(5), 15);
    }

    @Holds(promise = 27, words = "OUTSIDE.")
    static void countOfWhatIsNotTold() {
        FirstStates x = Circuits.busy(2, 2, 20);
        due("count(-1)", x.count(-1), OUTSIDE);
        due("count(6)", x.count(6), OUTSIDE);
        for (int what : Circuits.FAR) {
            due("count(" + what + ")", x.count(what), OUTSIDE);
        }
    }
}

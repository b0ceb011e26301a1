import java.util.function.ToIntFunction;

/**
 * "What is refused changes nothing": of two objects begun alike one is asked what it refuses; behind that
 * both must answer all else alike.
 */
final class RefusalEdges {
    private static final int UNKNOWN = -1, OUTSIDE = -2, STATE = -3, FULL = -4;
    private static final String NOTHING = "What is refused changes nothing.";

    private RefusalEdges() {
    }

    /** With 4 inputs (nodes 0 to 3), 6 stores (4 to 9) and gates up to 20 nodes. */
    private static void refused(String call, int want, ToIntFunction<FirstStates> asked) {
        refused(call, want, 4, 6, 20, asked);
    }

    private static void refused(
            String call, int want, int inputs, int stores, int nodes, ToIntFunction<FirstStates> asked) {
        FirstStates x = Circuits.busy(inputs, stores, nodes);
        FirstStates twin = Circuits.busy(inputs, stores, nodes);
        EdgeTests.due(call, asked.applyAsInt(x), want);
        EdgeTests.due(call + ": nothing changes", Circuits.lookAt(x).equals(Circuits.lookAt(twin)) ? 1 : 0, 1);
    }

    @Holds(promise = 0, words = NOTHING)
    static void input() {
        refused("the fifth input", FULL, x -> x.input());
        refused("node 33", FULL, 3, 5, 32, x -> x.input());
    }

    @Holds(promise = 0, words = NOTHING)
    static void fixed() {
        refused("fixed(2)", OUTSIDE, x -> x.fixed(2));
        refused("fixed(-1)", OUTSIDE, x -> x.fixed(-1));
        refused("node 33", FULL, 3, 5, 32, x -> x.fixed(1));
    }

    @Holds(promise = 0, words = NOTHING)
    static void gate() {
        refused("gate(5, 0, 0, 0)", OUTSIDE, x -> x.gate(5, 0, 0, 0));
        refused("gate(-1, 0, 0, 0)", OUTSIDE, x -> x.gate(-1, 0, 0, 0));
        refused("gate(0, 20, 0, 0)", UNKNOWN, x -> x.gate(0, 20, 0, 0));
        refused("gate(1, 0, -1, 0)", UNKNOWN, x -> x.gate(1, 0, -1, 0));
        refused("gate(4, 0, 0, 20)", UNKNOWN, x -> x.gate(4, 0, 0, 20));
        refused("node 33", FULL, 3, 5, 32, x -> x.gate(4, 0, 1, 2));
    }

    @Holds(promise = 0, words = NOTHING)
    static void store() {
        refused("store(4, 0)", UNKNOWN, 4, 5, 20, x -> x.store(4, 0));
        refused("store(-1, 0)", UNKNOWN, 4, 5, 20, x -> x.store(-1, 0));
        refused("store(0, 2)", OUTSIDE, 4, 5, 20, x -> x.store(0, 2));
        refused("the seventh store", FULL, x -> x.store(0, 1));
        refused("node 33", FULL, 3, 5, 32, x -> x.store(0, 1));
    }

    @Holds(promise = 0, words = NOTHING)
    static void reads() {
        refused("reads(20, 0)", UNKNOWN, x -> x.reads(20, 0));
        refused("reads(4, 20)", UNKNOWN, x -> x.reads(4, 20));
        refused("reads(4, -1)", UNKNOWN, x -> x.reads(4, -1));
        refused("reads(0, 4)", STATE, x -> x.reads(0, 4));
        refused("reads(10, 4)", STATE, x -> x.reads(10, 4));
    }

    @Holds(promise = 0, words = NOTHING)
    static void about() {
        refused("about(20, 0)", UNKNOWN, x -> x.about(20, 0));
        refused("about(4, 5)", OUTSIDE, x -> x.about(4, 5));
    }

    @Holds(promise = 0, words = NOTHING)
    static void line() {
        refused("line(4, true)", UNKNOWN, x -> x.line(4, true));
        refused("line(-1, true)", UNKNOWN, x -> x.line(-1, true));
        refused("line(33, false)", UNKNOWN, x -> x.line(33, false));
        refused("line(32, true)", UNKNOWN, x -> x.line(32, true));
    }

    @Holds(promise = 0, words = NOTHING)
    static void set() {
        refused("set(20, 0)", UNKNOWN, x -> x.set(20, 0));
        refused("set(4, 0)", STATE, x -> x.set(4, 0));
        refused("set(10, 1)", STATE, x -> x.set(10, 1));
        refused("set(1, 3)", OUTSIDE, x -> x.set(1, 3));
        refused("set(1, -1)", OUTSIDE, x -> x.set(1, -1));
    }

    @Holds(promise = 0, words = NOTHING)
    static void tick() {
        refused("tick(0)", OUTSIDE, x -> x.tick(0));
        refused("tick(65)", OUTSIDE, x -> x.tick(65));
        refused("tick(-1)", OUTSIDE, x -> x.tick(-1));
        FirstStates x = Circuits.countingDown();
        for (int n : new int[] {0, 65, -1, Integer.MIN_VALUE, Integer.MAX_VALUE}) {
            EdgeTests.due("tick(" + n + ") while each tick takes a row away", x.tick(n), OUTSIDE);
            EdgeTests.due("possible", x.possible(), 64);
        }
    }

    @Holds(promise = 0, words = NOTHING)
    static void sure() {
        refused("sure(20)", UNKNOWN, x -> x.sure(20));
        refused("sure(-1)", UNKNOWN, x -> x.sure(-1));
    }

    @Holds(promise = 0, words = NOTHING)
    static void told() {
        refused("told(20)", UNKNOWN, x -> x.told(20));
        refused("told(-1)", UNKNOWN, x -> x.told(-1));
    }

    @Holds(promise = 0, words = NOTHING)
    static void next() {
        refused("next(64)", OUTSIDE, x -> x.next(64));
        refused("next(-1)", OUTSIDE, x -> x.next(-1));
    }

    @Holds(promise = 0, words = NOTHING)
    static void depends() {
        refused("depends(20, 4)", UNKNOWN, x -> x.depends(20, 4));
        refused("depends(4, 20)", UNKNOWN, x -> x.depends(4, 20));
        refused("depends(0, 4)", STATE, x -> x.depends(0, 4));
        refused("depends(4, 0)", STATE, x -> x.depends(4, 0));
    }

    @Holds(promise = 0, words = NOTHING)
    static void alone() {
        refused("alone(4)", UNKNOWN, x -> x.alone(4));
        refused("alone(-1)", UNKNOWN, x -> x.alone(-1));
    }

    @Holds(promise = 0, words = NOTHING)
    static void mend() {
        refused("mend(0)", OUTSIDE, x -> x.mend(0));
        refused("mend(65)", OUTSIDE, x -> x.mend(65));
    }

    @Holds(promise = 0, words = NOTHING)
    static void need() {
        refused("need(4, 0, 1)", UNKNOWN, x -> x.need(4, 0, 1));
        refused("need(0, 4, 1)", UNKNOWN, x -> x.need(0, 4, 1));
        refused("need(-1, 3, 1)", UNKNOWN, x -> x.need(-1, 3, 1));
        refused("need(1, -1, 1)", UNKNOWN, x -> x.need(1, -1, 1));
        refused("need(1, 0, 21)", OUTSIDE, x -> x.need(1, 0, 21));
        refused("need(1, 0, -1)", OUTSIDE, x -> x.need(1, 0, -1));
    }

    @Holds(promise = 0, words = NOTHING)
    static void go() {
        refused("go(4)", UNKNOWN, x -> x.go(4));
        refused("go(-1)", UNKNOWN, x -> x.go(-1));
    }

    @Holds(promise = 0, words = NOTHING)
    static void gone() {
        refused("gone(-1)", OUTSIDE, x -> x.gone(-1));
    }

    @Holds(promise = 0, words = NOTHING)
    static void count() {
        refused("count(6)", OUTSIDE, x -> x.count(6));
        refused("count(-1)", OUTSIDE, x -> x.count(-1));
    }
}

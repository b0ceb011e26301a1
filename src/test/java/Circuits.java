import java.util.ArrayList;
import java.util.List;

/** Circuits that several tests begin with. */
final class Circuits {
    static final int NONE = -9;

    /** Numbers far off, at which an index or a shift would wrap around. */
    static final int[] FAR = {
        Integer.MIN_VALUE, Integer.MIN_VALUE + 1, -64, -33, -32, 64, 65, 100, 256, 1 << 16, 1 << 30,
        Integer.MAX_VALUE - 1, Integer.MAX_VALUE
    };

    private Circuits() {
    }

    /** The possible rows, as bits. */
    static long rows(FirstStates x) {
        long found = 0L;
        for (int i = 0; i < x.possible(); i++) {
            found |= 1L << x.row(i);
        }
        return found;
    }

    /** FIXED ones, 0 each. */
    static FirstStates fixedNodes(int count) {
        FirstStates x = new FirstStates();
        for (int i = 0; i < count; i++) {
            x.fixed(0);
        }
        return x;
    }

    /** STORES without a LINE, each reads itself. */
    static FirstStates freeStores(int count) {
        FirstStates x = new FirstStates();
        for (int i = 0; i < count; i++) {
            x.store(NONE, 0);
        }
        return x;
    }

    /** An INPUT, a FIXED one, a GATE, a STORE and one more STORE: nodes 0 to 4. */
    static FirstStates ofEachSort() {
        FirstStates x = new FirstStates();
        x.input();
        x.fixed(1);
        x.gate(0, 0, 0, 0);
        x.store(0, 1);
        x.store(NONE, 0);
        return x;
    }

    /** Three STORES without a LINE, the first reads 1 and each other one the STORE ahead of it. */
    static FirstStates shifting() {
        FirstStates x = freeStores(3);
        x.fixed(1);
        x.reads(0, 3);
        x.reads(1, 0);
        x.reads(2, 1);
        return x;
    }

    /** Six STORES without a LINE that count down to row 0 and stay there: 63 ticks from row 63. */
    static FirstStates countingDown() {
        FirstStates x = freeStores(6);
        int borrow = 0;
        for (int i = 1; i < 6; i++) {
            borrow = x.gate(2, borrow, i, 0);
        }
        for (int i = 0; i < 6; i++) {
            x.reads(i, x.gate(3, i, borrow, 0));
            if (i < 5) {
                borrow = x.gate(1, borrow, x.gate(0, i, 0, 0), 0);
            }
        }
        return x;
    }

    /** Six STORES of LINE 0, which resets them to 0, that count up, from row 63 to row 0. */
    static FirstStates countingUp() {
        FirstStates x = new FirstStates();
        for (int i = 0; i < 6; i++) {
            x.store(0, 0);
        }
        int carry = x.fixed(1);
        for (int i = 0; i < 6; i++) {
            x.reads(i, x.gate(3, i, carry, 0));
            carry = x.gate(1, carry, i, 0);
        }
        return x;
    }

    /** So many INPUTS, then STORES, then GATES up to so many NODES; lines, needs and ticks have been used. */
    static FirstStates busy(int inputs, int stores, int nodes) {
        FirstStates x = new FirstStates();
        for (int i = 0; i < inputs; i++) {
            x.input();
        }
        for (int i = 0; i < stores; i++) {
            x.store(i < 4 ? i : NONE, i & 1);
        }
        for (int node = inputs + stores; node < nodes; node++) {
            x.gate(node % 5, node - 1, node - 2, node - 3);
        }
        for (int i = 0; i < stores; i++) {
            x.reads(inputs + i, nodes - 1 - i);
        }
        x.line(1, true);
        x.set(0, 1);
        x.need(1, 0, 3);
        x.need(2, 1, 4);
        x.need(3, 3, 0);
        x.tick(2);
        return x;
    }

    /** All that an object tells of itself; the calls that change it come last. */
    static List<Integer> lookAt(FirstStates x) {
        List<Integer> seen = new ArrayList<>();
        for (int what = 0; what < 6; what++) {
            seen.add(x.count(what));
        }
        lookAtNodes(x, seen);
        lookAtRows(x, seen);
        for (int line = 0; line < 4; line++) {
            seen.add(x.alone(line));
            seen.add(x.go(line));
        }
        seen.add(x.known(true));
        seen.add(x.known(false));
        seen.add(x.settles());
        seen.add(x.next(0));
        seen.add(x.crossings());
        seen.add(x.crossing(0));
        seen.add(x.mend(1));
        seen.add(x.mend(3));
        seen.add(x.gone(3));
        changeAll(x, seen);
        lookAtRows(x, seen);
        return seen;
    }

    private static void lookAtNodes(FirstStates x, List<Integer> seen) {
        int nodes = x.count(0);
        for (int node = 0; node < nodes; node++) {
            for (int what = 0; what < 5; what++) {
                seen.add(x.about(node, what));
            }
            seen.add(x.sure(node));
            seen.add(x.told(node));
        }
    }

    private static void lookAtRows(FirstStates x, List<Integer> seen) {
        int possible = x.possible();
        seen.add(possible);
        for (int i = 0; i < possible; i++) {
            seen.add(x.row(i));
        }
    }

    private static void changeAll(FirstStates x, List<Integer> seen) {
        for (int line = 0; line < 4; line++) {
            seen.add(x.line(line, line == 2));
        }
        for (int pair = 0; pair < 16; pair++) {
            seen.add(x.need(pair / 4, pair % 4, NONE));
        }
        for (int node = 0; node < 4; node++) {
            seen.add(x.set(node, 2));
        }
        seen.add(x.fresh());
        seen.add(x.tick(1));
    }
}

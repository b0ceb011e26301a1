import java.util.ArrayList;
import java.util.List;
import java.util.TreeSet;

/** The document told once more, row by row and without regard to speed. */
final class PlainModel {
    static final int UNKNOWN = -1, OUTSIDE = -2, STATE = -3, FULL = -4, NONE = -9;

    /** sort, and: of an input what it is set to; of a fixed one its number; kind, a, b, c; line, begin, read. */
    private final List<int[]> nodes = new ArrayList<>();
    private final boolean[] on = new boolean[4];
    private final Integer[][] waits = new Integer[4][4];
    private TreeSet<Integer> rows = new TreeSet<>(List.of(0));
    private int[] holds = {};
    private int ticks;

    private boolean node(int n) {
        return 0 <= n && n < nodes.size();
    }

    private boolean line(int l) {
        return 0 <= l && l <= 3;
    }

    private List<Integer> ofSort(int sort) {
        List<Integer> found = new ArrayList<>();
        for (int n = 0; n < nodes.size(); n++) {
            if (nodes.get(n)[0] == sort) {
                found.add(n);
            }
        }
        return found;
    }

    private TreeSet<Integer> all() {
        TreeSet<Integer> found = new TreeSet<>();
        for (int row = 0; row < 1 << ofSort(3).size(); row++) {
            found.add(row);
        }
        return found;
    }

    int fresh() {
        int were = ticks;
        rows = all();
        holds = new int[ofSort(3).size()];
        java.util.Arrays.fill(holds, 2);
        ticks = 0;
        return were;
    }

    private int come(int... what) {
        nodes.add(what);
        fresh();
        return nodes.size() - 1;
    }

    int input() {
        return ofSort(0).size() == 4 || nodes.size() == 32 ? FULL : come(0, 2);
    }

    int fixed(int v) {
        return v != 0 && v != 1 ? OUTSIDE : nodes.size() == 32 ? FULL : come(1, v);
    }

    int gate(int kind, int a, int b, int c) {
        if (kind < 0 || kind > 4) {
            return OUTSIDE;
        }
        int[] given = {a, b, c};
        for (int i = 0; i < (kind == 0 ? 1 : kind == 4 ? 3 : 2); i++) {
            if (!node(given[i])) {
                return UNKNOWN;
            }
        }
        return nodes.size() == 32 ? FULL : come(2, kind, a, b, c);
    }

    int store(int line, int begin) {
        if (line != NONE && !line(line)) {
            return UNKNOWN;
        }
        if (begin != 0 && begin != 1) {
            return OUTSIDE;
        }
        return ofSort(3).size() == 6 || nodes.size() == 32 ? FULL : come(3, line, begin, nodes.size());
    }

    int reads(int store, int node) {
        if (!node(store) || !node(node)) {
            return UNKNOWN;
        }
        if (nodes.get(store)[0] != 3) {
            return STATE;
        }
        int was = nodes.get(store)[3];
        nodes.get(store)[3] = node;
        if (was != node) {
            fresh();
        }
        return was;
    }

    int about(int node, int what) {
        if (!node(node)) {
            return UNKNOWN;
        }
        if (what < 0 || what > 4) {
            return OUTSIDE;
        }
        int[] n = nodes.get(node);
        if (what == 0) {
            return n[0];
        }
        if (what == 1) {
            return n[0] == 2 ? n[1] : NONE;
        }
        return n[0] == 3 ? n[what - 1] : NONE;
    }

    int line(int line, boolean isOn) {
        if (!line(line)) {
            return UNKNOWN;
        }
        int was = on[line] ? 1 : 0;
        on[line] = isOn;
        return was;
    }

    int set(int node, int v) {
        if (!node(node)) {
            return UNKNOWN;
        }
        if (nodes.get(node)[0] != 0) {
            return STATE;
        }
        if (v < 0 || v > 2) {
            return OUTSIDE;
        }
        int was = nodes.get(node)[1];
        nodes.get(node)[1] = v;
        return was;
    }

    /** All numbers that the inputs can be, in the order of ofSort(0). */
    private List<int[]> ways(boolean allOpen) {
        List<int[]> found = new ArrayList<>();
        List<Integer> inputs = ofSort(0);
        for (int bits = 0; bits < 1 << inputs.size(); bits++) {
            int[] way = new int[inputs.size()];
            boolean fits = true;
            for (int i = 0; i < way.length; i++) {
                way[i] = bits >> i & 1;
                int is = nodes.get(inputs.get(i))[1];
                fits &= allOpen || is == 2 || is == way[i];
            }
            if (fits) {
                found.add(way);
            }
        }
        return found;
    }

    private int[] values(int row, int[] way) {
        int[] v = new int[nodes.size()];
        int input = 0;
        int store = 0;
        for (int n = 0; n < v.length; n++) {
            int[] is = nodes.get(n);
            if (is[0] == 0) {
                v[n] = way[input++];
            } else if (is[0] == 1) {
                v[n] = is[1];
            } else if (is[0] == 3) {
                v[n] = row >> store++ & 1;
            } else if (is[1] == 0) {
                v[n] = v[is[2]] == 1 ? 0 : 1;
            } else if (is[1] == 1) {
                v[n] = v[is[2]] + v[is[3]] == 2 ? 1 : 0;
            } else if (is[1] == 2) {
                v[n] = v[is[2]] + v[is[3]] > 0 ? 1 : 0;
            } else if (is[1] == 3) {
                v[n] = v[is[2]] == v[is[3]] ? 0 : 1;
            } else {
                v[n] = v[is[2]] == 1 ? v[is[3]] : v[is[4]];
            }
        }
        return v;
    }

    private int step(int row, int[] way, boolean[] lines, int also) {
        int[] v = values(row, way);
        int to = 0;
        int i = 0;
        for (int s : ofSort(3)) {
            int[] is = nodes.get(s);
            boolean reset = is[1] != NONE && lines[is[1]] || (also >> i & 1) == 1;
            to |= (reset ? is[2] : v[is[3]]) << i;
            i++;
        }
        return to;
    }

    private TreeSet<Integer> step(TreeSet<Integer> from, boolean allOpen, boolean[] lines, int also) {
        TreeSet<Integer> to = new TreeSet<>();
        for (int[] way : ways(allOpen)) {
            for (int row : from) {
                to.add(step(row, way, lines, also));
            }
        }
        return to;
    }

    private int[] tellings() {
        int[] t = new int[nodes.size()];
        int store = 0;
        for (int n = 0; n < t.length; n++) {
            int[] is = nodes.get(n);
            if (is[0] < 2) {
                t[n] = is[1];
            } else if (is[0] == 3) {
                t[n] = holds[store++];
            } else {
                int a = t[is[2]];
                int b = is[1] > 0 ? t[is[3]] : 0;
                int c = is[1] > 3 ? t[is[4]] : 0;
                if (is[1] == 0) {
                    t[n] = new int[] {1, 0, 2}[a];
                } else if (is[1] == 1) {
                    t[n] = a == 0 || b == 0 ? 0 : a == 1 && b == 1 ? 1 : 2;
                } else if (is[1] == 2) {
                    t[n] = a == 1 || b == 1 ? 1 : a == 0 && b == 0 ? 0 : 2;
                } else if (is[1] == 3) {
                    t[n] = a == 2 || b == 2 ? 2 : a == b ? 0 : 1;
                } else {
                    t[n] = a == 1 ? b : a == 0 ? c : b == c ? b : 2;
                }
            }
        }
        return t;
    }

    int tick(int n) {
        if (n < 1 || n > 64) {
            return OUTSIDE;
        }
        List<Integer> stores = ofSort(3);
        for (int i = 0; i < n; i++) {
            rows = step(rows, false, on, 0);
            int[] t = tellings();
            for (int s = 0; s < stores.size(); s++) {
                int[] is = nodes.get(stores.get(s));
                holds[s] = is[1] != NONE && on[is[1]] ? is[2] : t[is[3]];
            }
            ticks++;
        }
        return rows.size();
    }

    int possible() {
        return rows.size();
    }

    int row(int i) {
        return i < 0 || i >= rows.size() ? NONE : new ArrayList<>(rows).get(i);
    }

    int sure(int node) {
        if (!node(node)) {
            return UNKNOWN;
        }
        TreeSet<Integer> seen = new TreeSet<>();
        for (int[] way : ways(false)) {
            for (int row : rows) {
                seen.add(values(row, way)[node]);
            }
        }
        return seen.size() == 1 ? seen.first() : 2;
    }

    int told(int node) {
        return node(node) ? tellings()[node] : UNKNOWN;
    }

    int known(boolean parts) {
        int found = 0;
        for (int s : ofSort(3)) {
            if ((parts ? told(s) : sure(s)) != 2) {
                found++;
            }
        }
        return found;
    }

    private int ticksTillOne(TreeSet<Integer> from, boolean allOpen, boolean[] lines) {
        TreeSet<Integer> now = from;
        for (int tick = 0; tick <= 64; tick++) {
            if (now.size() == 1) {
                return tick;
            }
            now = step(now, allOpen, lines, 0);
        }
        return NONE;
    }

    int settles() {
        return ticksTillOne(rows, false, on);
    }

    int next(int row) {
        // The first way has each open input at 0.
        return all().contains(row) ? step(row, ways(false).get(0), on, 0) : OUTSIDE;
    }

    private boolean leadsBack(int from, int other) {
        int[] is = nodes.get(from);
        if (from == other) {
            return true;
        }
        if (is[0] != 2) {
            return false;
        }
        boolean found = leadsBack(is[2], other);
        found |= is[1] > 0 && leadsBack(is[3], other);
        return found || is[1] > 3 && leadsBack(is[4], other);
    }

    int depends(int store, int other) {
        if (!node(store) || !node(other)) {
            return UNKNOWN;
        }
        if (nodes.get(store)[0] != 3 || nodes.get(other)[0] != 3) {
            return STATE;
        }
        return leadsBack(nodes.get(store)[3], other) ? 1 : 0;
    }

    private List<Integer> allCrossings() {
        List<Integer> found = new ArrayList<>();
        for (int first : ofSort(3)) {
            for (int second : ofSort(3)) {
                if (nodes.get(first)[1] != nodes.get(second)[1] && depends(second, first) == 1) {
                    found.add(100 * first + second);
                }
            }
        }
        return found;
    }

    int crossings() {
        return allCrossings().size();
    }

    int crossing(int i) {
        List<Integer> found = allCrossings();
        return i < 0 || i >= found.size() ? NONE : found.get(i);
    }

    int alone(int line) {
        if (!line(line)) {
            return UNKNOWN;
        }
        boolean[] lines = new boolean[4];
        lines[line] = true;
        return ticksTillOne(all(), true, lines);
    }

    int mend(int n) {
        if (n < 1 || n > 64) {
            return OUTSIDE;
        }
        int best = NONE;
        for (int also : all()) {
            boolean fits = best == NONE || Integer.bitCount(also) < Integer.bitCount(best);
            int i = 0;
            for (int s : ofSort(3)) {
                fits &= (also >> i++ & 1) == 0 || nodes.get(s)[1] == NONE;
            }
            if (!fits) {
                continue;
            }
            TreeSet<Integer> now = all();
            for (int tick = 0; tick < n; tick++) {
                now = step(now, false, new boolean[] {true, true, true, true}, also);
            }
            if (now.size() == 1) {
                best = also;
            }
        }
        return best;
    }

    int need(int a, int b, int w) {
        if (!line(a) || !line(b)) {
            return UNKNOWN;
        }
        if (w != NONE && (w < 0 || w > 20)) {
            return OUTSIDE;
        }
        int was = waits[a][b] == null ? NONE : waits[a][b];
        waits[a][b] = w == NONE ? null : w;
        return was;
    }

    /** The longest chain of needs that ends at a line; one that outgrows every chain without a ring is never met. */
    int go(int line) {
        if (!line(line)) {
            return UNKNOWN;
        }
        int[] longest = new int[4];
        for (int links = 0; links < 1000; links++) {
            for (int a = 0; a < 4; a++) {
                for (int b = 0; b < 4; b++) {
                    if (waits[a][b] != null) {
                        longest[a] = Math.max(longest[a], longest[b] + waits[a][b]);
                    }
                }
            }
        }
        return longest[line] > 60 ? NONE : longest[line];
    }

    int gone(int tick) {
        if (tick < 0) {
            return OUTSIDE;
        }
        int found = 0;
        for (int l = 0; l < 4; l++) {
            if (go(l) != NONE && go(l) <= tick) {
                found++;
            }
        }
        return found;
    }

    int count(int what) {
        int lines = 0;
        int needs = 0;
        for (int a = 0; a < 4; a++) {
            lines += on[a] ? 1 : 0;
            for (int b = 0; b < 4; b++) {
                needs += waits[a][b] != null ? 1 : 0;
            }
        }
        int[] counts = {nodes.size(), ofSort(3).size(), ofSort(0).size(), ticks, lines, needs};
        return what < 0 || what > 5 ? OUTSIDE : counts[what];
    }
}

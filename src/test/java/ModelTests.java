/** Long runs of mixed calls: the class and the plain model must answer alike. */
public final class ModelTests {
    private static final Checks CHECKS = new Checks("ModelTests");
    private static final int[] ODD = {-1, -2, -9, 32, 64, 65, 100, Integer.MIN_VALUE, Integer.MAX_VALUE};
    private static long state = 20260101L;

    public static void main(String[] args) {
        int runs = 150;
        for (int run = 0; run < runs; run++) {
            play(run);
        }
        CHECKS.end();
    }

    private static int pick(int bound) {
        state = state * 6364136223846793005L + 1442695040888963407L;
        return (int) ((state >>> 33) % bound);
    }

    /** Mostly a number below bound, now and then one that is not as told. */
    private static int some(int bound) {
        return pick(16) == 0 ? ODD[pick(ODD.length)] : bound < 1 ? 0 : pick(bound + (pick(8) == 0 ? 1 : 0));
    }

    private static void play(int run) {
        FirstStates x = new FirstStates();
        PlainModel m = new PlainModel();
        int calls = 0;
        int building = 12 + pick(30);
        int nature = run % 4;
        for (; calls < building; calls++) {
            build(run, x, m, nature);
        }
        for (; calls < 200; calls++) {
            if (pick(40) == 0) {
                build(run, x, m, nature);
            } else {
                use(run, x, m);
            }
        }
    }

    private static void due(int run, String call, int got, int want) {
        CHECKS.due("run " + run + ": " + call, got, want);
    }

    private static void build(int run, FirstStates x, PlainModel m, int nature) {
        int nodes = m.count(0);
        int a = some(nodes);
        int b = some(nodes);
        int c = some(nodes);
        switch (pick(10)) {
            case 0:
                if (nature != 3) {
                    due(run, "input", x.input(), m.input());
                }
                break;
            case 1:
                int v = some(2);
                due(run, "fixed " + v, x.fixed(v), m.fixed(v));
                break;
            case 2:
            case 3:
                int line = pick(3) == 0 ? -9 : some(nature < 2 ? 2 : 4);
                int begin = some(2);
                due(run, "store " + line + " " + begin, x.store(line, begin), m.store(line, begin));
                break;
            case 4:
            case 5:
            case 6:
                int kind = some(5);
                due(run, "gate " + kind, x.gate(kind, a, b, c), m.gate(kind, a, b, c));
                break;
            default:
                due(run, "reads " + a + " " + b, x.reads(a, b), m.reads(a, b));
                break;
        }
    }

    private static void use(int run, FirstStates x, PlainModel m) {
        int a = some(m.count(0));
        int b = some(m.count(0));
        int line = some(4);
        int n = pick(4) == 0 ? some(65) : some(6);
        switch (pick(22)) {
            case 0:
                due(run, "about " + a + " " + n, x.about(a, n), m.about(a, n));
                break;
            case 1:
                boolean on = pick(2) == 0;
                due(run, "line " + line, x.line(line, on), m.line(line, on));
                break;
            case 2:
                int v = some(3);
                due(run, "set " + a + " " + v, x.set(a, v), m.set(a, v));
                break;
            case 3:
            case 4:
                due(run, "tick " + n, x.tick(n), m.tick(n));
                break;
            case 5:
                due(run, "fresh", x.fresh(), m.fresh());
                break;
            case 6:
                due(run, "possible", x.possible(), m.possible());
                break;
            case 7:
                due(run, "row " + n, x.row(n), m.row(n));
                break;
            case 8:
                due(run, "sure " + a, x.sure(a), m.sure(a));
                break;
            case 9:
                due(run, "told " + a, x.told(a), m.told(a));
                break;
            case 10:
                due(run, "known true", x.known(true), m.known(true));
                break;
            case 11:
                due(run, "known false", x.known(false), m.known(false));
                break;
            case 12:
                due(run, "settles", x.settles(), m.settles());
                break;
            case 13:
                int row = some(m.possible() + 1);
                due(run, "next " + row, x.next(row), m.next(row));
                break;
            case 14:
                due(run, "depends " + a + " " + b, x.depends(a, b), m.depends(a, b));
                break;
            case 15:
                due(run, "crossings", x.crossings(), m.crossings());
                break;
            case 16:
                due(run, "crossing " + n, x.crossing(n), m.crossing(n));
                break;
            case 17:
                due(run, "alone " + line, x.alone(line), m.alone(line));
                break;
            case 18:
                int ticks = pick(8) == 0 ? n : some(4);
                due(run, "mend " + ticks, x.mend(ticks), m.mend(ticks));
                break;
            case 19:
                useNeeds(run, x, m);
                break;
            case 20:
                due(run, "count " + n, x.count(n), m.count(n));
                break;
            default:
                lookAtAll(run, x, m);
                break;
        }
    }

    private static void useNeeds(int run, FirstStates x, PlainModel m) {
        int a = some(4);
        int b = some(4);
        int w = pick(3) == 0 ? -9 : pick(2) == 0 ? 0 : some(21);
        due(run, "need " + a + " " + b + " " + w, x.need(a, b, w), m.need(a, b, w));
        int line = some(4);
        due(run, "go " + line, x.go(line), m.go(line));
        int tick = some(65);
        due(run, "gone " + tick, x.gone(tick), m.gone(tick));
    }

    private static void lookAtAll(int run, FirstStates x, PlainModel m) {
        for (int node = 0; node < m.count(0); node++) {
            due(run, "sure " + node, x.sure(node), m.sure(node));
            due(run, "told " + node, x.told(node), m.told(node));
        }
    }
}

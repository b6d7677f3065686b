/**
 * "A call that is refused changes nothing.": each refused call in each state, beside a twin that
 * is spared the call; the two must answer the same from then on, to the end of the run and about
 * the net itself.
 */
public final class RefusedTest {
    private static final Checks CHECKS = new Checks();

    /** The states that a bench can be in; those from CHOSEN on are of an algorithm. */
    private static final int NEW = 0;
    private static final int UNREADY = 1;
    private static final int APART = 2;
    private static final int TWINS = 3;
    private static final int READY = 4;
    private static final int CHOSEN = 5;
    private static final int RUNNING = 6;
    private static final int FINISHED = 7;

    /** Arguments that are wrong in all of the states: of five nodes in a row, and of one. */
    private static final int[] NETS = {Integer.MIN_VALUE, -1, 0, 13, Integer.MAX_VALUE};
    private static final int[][] EDGES = {
        {-1, 0, 1}, {0, -1, 1}, {5, 0, 1}, {0, 5, 1}, {2, 2, 1}, {0, 0, 1}, {0, 1, 3}, {1, 0, 3},
        {0, 2, 0}, {0, 2, -1}, {0, 2, 1000}, {Integer.MAX_VALUE, 0, 1}, {0, Integer.MIN_VALUE, 1},
        {0, 2, Integer.MIN_VALUE}, {0, 2, Integer.MAX_VALUE}};
    private static final int[][] IDENTITIES = {
        {-1, 7}, {5, 7}, {12, 7}, {0, 0}, {0, -1}, {0, 1000}, {Integer.MIN_VALUE, 7},
        {0, Integer.MAX_VALUE}};
    private static final int[][] CHOICES = {
        {-1, 1}, {8, 1}, {Integer.MIN_VALUE, 1}, {Integer.MAX_VALUE, 1}, {1, -1}, {1, 5}, {2, -1}, {2, 5},
        {3, -1}, {3, 5}, {6, 0}, {6, 13}, {7, -1}, {7, 5}};
    private static final int[][] HELDS = {{-1, 0}, {5, 0}, {12, 0}, {0, -1}, {0, 3}};

    public static void main(String[] args) {
        for (int state = NEW; state <= READY; state++) {
            inState(state, 0);
        }
        for (int state = CHOSEN; state <= FINISHED; state++) {
            for (int algorithm = 0; algorithm < Row.ALGORITHMS; algorithm++) {
                inState(state, algorithm);
            }
        }
        ofAFullNet();
        allOfThemInARow();
        CHECKS.end();
    }

    private static Bench make(int state, int algorithm) {
        Bench bench = state == NEW ? new Bench() : Row.unready();
        if (state == APART) {
            bench.net(5);
            Nets.edges(bench, new int[][] {{0, 1, 8}, {3, 4, 5}});
            bench.ready();
        } else if (state == TWINS) {
            bench.identity(4, 50);
            bench.ready();
        } else if (state >= READY) {
            bench.ready();
        }
        if (state >= CHOSEN) {
            bench.choose(algorithm, Row.ROOTS[algorithm]);
        }
        if (state >= RUNNING) {
            bench.run(state == RUNNING ? 1 : 50);
        }
        return bench;
    }

    private static void inState(int state, int algorithm) {
        for (int n : NETS) {
            Bench bench = make(state, algorithm);
            refused(state, algorithm, "net(" + n + ")", bench.net(n) ? 1 : 0, 0, bench);
        }
        for (int[] x : EDGES) {
            Bench bench = make(state, algorithm);
            String call = "edge(" + x[0] + ", " + x[1] + ", " + x[2] + ")";
            refused(state, algorithm, call, bench.edge(x[0], x[1], x[2]), -1, bench);
        }
        for (int[] x : IDENTITIES) {
            Bench bench = make(state, algorithm);
            String call = "identity(" + x[0] + ", " + x[1] + ")";
            refused(state, algorithm, call, bench.identity(x[0], x[1]) ? 1 : 0, 0, bench);
        }
        for (int[] x : CHOICES) {
            Bench bench = make(state, algorithm);
            String call = "choose(" + x[0] + ", " + x[1] + ")";
            refused(state, algorithm, call, bench.choose(x[0], x[1]) ? 1 : 0, 0, bench);
        }
        for (int[] x : HELDS) {
            Bench bench = make(state, algorithm);
            String call = "held(" + x[0] + ", " + x[1] + ")";
            refused(state, algorithm, call, bench.held(x[0], x[1]), -2, bench);
        }
        for (int limit : new int[] {-1, Integer.MIN_VALUE}) {
            Bench bench = make(state, algorithm);
            refused(state, algorithm, "run(" + limit + ")", bench.run(limit), -1, bench);
        }
        byTheStateAlone(state, algorithm);
    }

    /** Calls that are wrong not by their arguments, but by when they come. */
    private static void byTheStateAlone(int state, int algorithm) {
        if (state < READY) {
            for (int other = 0; other < Row.ALGORITHMS; other++) {
                Bench bench = make(state, algorithm);
                int root = other == 6 ? 1 : 0;
                String call = "choose(" + other + ", " + root + ")";
                refused(state, algorithm, call, bench.choose(other, root) ? 1 : 0, 0, bench);
            }
        }
        if (state < CHOSEN) {
            Bench bench = make(state, algorithm);
            refused(state, algorithm, "run(5)", bench.run(5), -1, bench);
            bench = make(state, algorithm);
            refused(state, algorithm, "held(0, 0)", bench.held(0, 0), -2, bench);
            bench = make(state, algorithm);
            refused(state, algorithm, "rounds()", bench.rounds(), -1, bench);
            bench = make(state, algorithm);
            refused(state, algorithm, "letters()", bench.letters(), -1, bench);
        }
        if (state < CHOSEN || state == FINISHED) {
            Bench bench = make(state, algorithm);
            refused(state, algorithm, "round()", bench.round(), -1, bench);
        }
        if (state == APART || state == TWINS) {
            Bench bench = make(state, algorithm);
            refused(state, algorithm, "ready()", bench.ready(), state == APART ? 1 : 2, bench);
        }
    }

    private static void refused(int state, int algorithm, String call, int got, int due, Bench bench) {
        String what = "state " + state + ", algorithm " + algorithm + ": " + call;
        CHECKS.same(what, got, due);
        sameFromNowOn(what + ", then", bench, make(state, algorithm));
    }

    private static void sameFromNowOn(String what, Bench bench, Bench twin) {
        CHECKS.alike(what, bench, twin, Row.NODES);
        for (int round = 1; round <= 5; round++) {
            CHECKS.same(what + ": round()", bench.round(), twin.round());
            CHECKS.alike(what, bench, twin, Row.NODES);
        }
        sameRuns(what, bench, twin);
        CHECKS.same(what + ": edge(2, 4, 9)", bench.edge(2, 4, 9), twin.edge(2, 4, 9));
        CHECKS.same(what + ": ready()", bench.ready(), twin.ready());
        sameRuns(what, bench, twin);
    }

    /** LEAST tells of the identities, WAYS of the weights and CORE of the neighbours. */
    private static void sameRuns(String what, Bench bench, Bench twin) {
        for (int algorithm : new int[] {0, 1, 6}) {
            String call = what + ": choose(" + algorithm + ", " + Row.ROOTS[algorithm] + ")";
            CHECKS.same(call, bench.choose(algorithm, Row.ROOTS[algorithm]),
                twin.choose(algorithm, Row.ROOTS[algorithm]));
            CHECKS.alike(call + ", at first", bench, twin, Row.NODES);
            CHECKS.same(call + ": run(50)", bench.run(50), twin.run(50));
            CHECKS.alike(call + ", at the end", bench, twin, Row.NODES);
        }
    }

    /** "NONE when there are 24": a refusal that no smaller net knows. */
    private static void ofAFullNet() {
        for (int algorithm = 0; algorithm < Row.ALGORITHMS; algorithm++) {
            Bench bench = Nets.full();
            Bench twin = Nets.full();
            int root = algorithm == 6 ? 4 : 2;
            bench.choose(algorithm, root);
            twin.choose(algorithm, root);
            bench.round();
            twin.round();
            String what = algorithm + ", full: edge(10, 11, 5)";
            CHECKS.same(what, bench.edge(10, 11, 5), -1);
            CHECKS.alike(what + ", then", bench, twin, 12);
            CHECKS.same(what + ", then run(50)", bench.run(50), twin.run(50));
            CHECKS.alike(what + ", at the end", bench, twin, 12);
            bench.choose(6, 1);
            CHECKS.slot(what + ", neighbours", bench, 2, 11, 11, 5, 3, 3, 3, 2, 2, 2, 2, 2, 2);
        }
    }

    /** All at once on one bench, with what is due said by hand. */
    private static void allOfThemInARow() {
        for (int algorithm = 0; algorithm < Row.ALGORITHMS; algorithm++) {
            Bench bench = make(RUNNING, algorithm);
            for (int n : NETS) {
                bench.net(n);
            }
            for (int[] x : EDGES) {
                bench.edge(x[0], x[1], x[2]);
            }
            for (int[] x : IDENTITIES) {
                bench.identity(x[0], x[1]);
            }
            for (int[] x : CHOICES) {
                bench.choose(x[0], x[1]);
            }
            bench.run(-1);
            String what = algorithm + " behind all refused calls";
            CHECKS.same(what + ": rounds()", bench.rounds(), 1);
            CHECKS.same(what + ": letters()", bench.letters(), Row.letters(algorithm, 1));
            CHECKS.holds(what, bench, Row.SECOND[algorithm]);
            CHECKS.same(what + ": round()", bench.round(), Row.LETTERS[algorithm][1]);
            bench.run(50);
            CHECKS.over(what, bench, Row.rounds(algorithm),
                Row.letters(algorithm, Row.rounds(algorithm)), Row.LAST[algorithm]);
        }
    }
}

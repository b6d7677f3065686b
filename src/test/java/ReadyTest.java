/** Promise 5, ready. */
public final class ReadyTest {
    private static final Checks CHECKS = new Checks();

    public static void main(String[] args) {
        oneNode();
        twoNodes();
        oneNodeApart();
        twoParts();
        longestWay();
        twins();
        apartBeforeTwins();
        twinsOfNodesThatAreGone();
        nothingElseMakesReady();
        onceMore();
        whatWasChosenStays();
        untilItIsChanged();
        CHECKS.end();
    }

    private static void oneNode() {
        Bench bench = new Bench();
        CHECKS.same("one node: ready()", bench.ready(), 0);
        CHECKS.same("one node: choose(0, 0)", bench.choose(0, 0), true);
    }

    private static void twoNodes() {
        Bench bench = new Bench();
        bench.net(2);
        CHECKS.same("two nodes without an edge: ready()", bench.ready(), 1);
        CHECKS.notReady("two nodes without an edge", bench);
        bench.edge(1, 0, 1);
        CHECKS.same("two nodes with one: ready()", bench.ready(), 0);
        CHECKS.same("two nodes with one: choose(0, 0)", bench.choose(0, 0), true);
    }

    /** Each node in its turn is the one that no edge leads to. */
    private static void oneNodeApart() {
        for (int apart = 0; apart < 4; apart++) {
            Bench bench = new Bench();
            bench.net(4);
            int a = (apart + 1) % 4;
            int b = (apart + 2) % 4;
            int c = (apart + 3) % 4;
            Nets.edges(bench, new int[][] {{a, b, 1}, {b, c, 1}, {c, a, 1}});
            CHECKS.same(apart + " is apart: ready()", bench.ready(), 1);
            CHECKS.notReady(apart + " is apart", bench);
            bench.edge(apart, b, 1);
            CHECKS.same(apart + " is no more: ready()", bench.ready(), 0);
        }
    }

    private static void twoParts() {
        Bench bench = new Bench();
        bench.net(12);
        for (int v = 0; v < 12; v++) {
            if (v != 5 && v != 11) {
                bench.edge(v, v + 1, 1);
            }
        }
        CHECKS.same("0 .. 5 and 6 .. 11: ready()", bench.ready(), 1);
        CHECKS.notReady("0 .. 5 and 6 .. 11", bench);
        bench.edge(11, 0, 1);
        CHECKS.same("with an edge between them: ready()", bench.ready(), 0);
    }

    /** Twelve nodes in rows whose ends are eleven edges far, in several orders of numbers. */
    private static void longestWay() {
        for (int step : new int[] {1, 5, 7, 11}) {
            Bench bench = new Bench();
            bench.net(12);
            for (int i = 0; i < 10; i++) {
                bench.edge(i * step % 12, (i + 1) * step % 12, 1);
            }
            CHECKS.same("steps of " + step + ", ten edges: ready()", bench.ready(), 1);
            bench.edge(10 * step % 12, 11 * step % 12, 1);
            CHECKS.same("steps of " + step + ", eleven edges: ready()", bench.ready(), 0);
        }
    }

    /** "2 otherwise, when two nodes have the same identity", whichever two these are. */
    private static void twins() {
        for (int a = 0; a < 12; a++) {
            for (int b = a + 1; b < 12; b++) {
                Bench bench = Nets.path(12);
                bench.identity(b, a + 1);
                CHECKS.same(a + " and " + b + ": ready()", bench.ready(), 2);
                CHECKS.same(a + " and " + b + ": choose(0, 0)", bench.choose(0, 0), false);
                bench.identity(b, 999);
                CHECKS.same(a + " and " + b + ", no more: ready()", bench.ready(), 0);
            }
        }
    }

    private static void apartBeforeTwins() {
        Bench bench = new Bench();
        bench.net(3);
        bench.edge(0, 1, 1);
        bench.identity(1, 1);
        CHECKS.same("apart and twins: ready()", bench.ready(), 1);
        CHECKS.notReady("apart and twins", bench);
        bench.edge(1, 2, 1);
        CHECKS.same("twins alone: ready()", bench.ready(), 2);
        CHECKS.notReady("twins alone", bench);
        bench.identity(1, 2);
        CHECKS.same("neither: ready()", bench.ready(), 0);
    }

    /** Nodes of an earlier net count no more, neither as parts nor as twins. */
    private static void twinsOfNodesThatAreGone() {
        Bench bench = new Bench();
        bench.net(12);
        bench.identity(11, 1);
        bench.net(2);
        bench.edge(0, 1, 1);
        CHECKS.same("two of twelve: ready()", bench.ready(), 0);
    }

    /** "The net is READY when ready() has found it so": not by being in order alone. */
    private static void nothingElseMakesReady() {
        Bench bench = Row.unready();
        CHECKS.notReady("in order, but ready() was not asked", bench);
        CHECKS.nothingChosen("in order, but ready() was not asked", bench);
    }

    private static void onceMore() {
        Bench bench = Row.ready();
        CHECKS.same("ready() again", bench.ready(), 0);
        CHECKS.same("choose(0, 0) behind it", bench.choose(0, 0), true);
    }

    /** "(what was chosen stays)": at first, in the midst of a run and at its end. */
    private static void whatWasChosenStays() {
        for (int algorithm = 0; algorithm < Row.ALGORITHMS; algorithm++) {
            for (int played : new int[] {0, 1, Row.rounds(algorithm)}) {
                String what = algorithm + ", ready() behind " + played + " rounds";
                Bench bench = Row.chosen(algorithm);
                Bench twin = Row.chosen(algorithm);
                bench.run(played);
                twin.run(played);
                CHECKS.same(what, bench.ready(), 0);
                CHECKS.alike(what, bench, twin, Row.NODES);
                CHECKS.same(what + ": run(50)", bench.run(50), Row.rounds(algorithm) - played);
                CHECKS.holds(what + ", at the end", bench, Row.LAST[algorithm]);
            }
        }
    }

    /** "until it is changed": by one that is not refused, and then by no refused one either. */
    private static void untilItIsChanged() {
        Bench bench = Row.ready();
        bench.edge(0, 2, 5);
        CHECKS.notReady("behind edge()", bench);
        bench.edge(0, 2, 5);
        CHECKS.notReady("behind edge() and a refused edge()", bench);
        bench.ready();
        bench.identity(0, 60);
        CHECKS.notReady("behind identity()", bench);
        bench.ready();
        bench.net(1);
        CHECKS.notReady("behind net()", bench);
    }
}

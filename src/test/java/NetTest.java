/** Promise 2, net, and "N being 1 .. 12" of the terms. */
public final class NetTest {
    private static final Checks CHECKS = new Checks();

    public static void main(String[] args) {
        sizes();
        extremeSizes();
        nodesOfEachSize();
        withoutEdges();
        numbersFromZero();
        roomForAllEdges();
        identitiesAsAtFirst();
        sameSizeIsNewToo();
        makesUnready();
        refusedKeepsTheNet();
        CHECKS.end();
    }

    /** "Answers true; false when n is not 1 .. 12." */
    private static void sizes() {
        Bench bench = new Bench();
        CHECKS.same("net(-1)", bench.net(-1), false);
        CHECKS.same("net(0)", bench.net(0), false);
        for (int n = 1; n <= 12; n++) {
            CHECKS.same("net(" + n + ")", bench.net(n), true);
        }
        CHECKS.same("net(13)", bench.net(13), false);
        CHECKS.same("net(14)", bench.net(14), false);
    }

    private static void extremeSizes() {
        Bench bench = new Bench();
        for (int n : new int[] {Integer.MIN_VALUE, Integer.MIN_VALUE + 1, -12, 256 + 1, 65536 + 1,
            Integer.MAX_VALUE - 1, Integer.MAX_VALUE}) {
            CHECKS.same("net(" + n + ")", bench.net(n), false);
        }
    }

    /** "NODES, 0 .. N - 1": the last one and the one behind it. */
    private static void nodesOfEachSize() {
        for (int n = 1; n <= 12; n++) {
            Bench bench = new Bench();
            bench.net(n);
            CHECKS.same(n + " nodes: identity(-1, 5)", bench.identity(-1, 5), false);
            CHECKS.same(n + " nodes: identity(0, 1)", bench.identity(0, 1), true);
            CHECKS.same(n + " nodes: identity(n - 1, n)", bench.identity(n - 1, n), true);
            CHECKS.same(n + " nodes: identity(n, 5)", bench.identity(n, 5), false);
            CHECKS.same(n + " nodes: edge(n - 1, n, 5)", bench.edge(n - 1, n, 5), -1);
            CHECKS.same(n + " nodes: edge(0, n - 1, 5)", bench.edge(0, n - 1, 5), n == 1 ? -1 : 0);
        }
    }

    /** "without edges": of one net, and of one that had some. */
    private static void withoutEdges() {
        Bench bench = Nets.kite();
        bench.net(6);
        CHECKS.same("edges are gone: ready()", bench.ready(), 1);
        CHECKS.same("edges are gone: edge(0, 1, 9)", bench.edge(0, 1, 9), 0);
        bench.net(1);
        bench.ready();
        bench.choose(6, 1);
        CHECKS.same("edges are gone: neighbours of node 0", bench.held(0, 2), 0);
    }

    private static void numbersFromZero() {
        Bench bench = Nets.full();
        bench.net(3);
        CHECKS.same("behind 24 edges and net(3): edge(0, 1, 1)", bench.edge(0, 1, 1), 0);
        CHECKS.same("behind 24 edges and net(3): edge(1, 2, 1)", bench.edge(1, 2, 1), 1);
    }

    private static void roomForAllEdges() {
        Bench bench = Nets.full();
        bench.net(12);
        int made = 0;
        for (int a = 0; a < 12; a++) {
            for (int b = a + 1; b < 12 && made < 25; b++) {
                CHECKS.same("anew: edge " + made, bench.edge(a, b, 1), made < 24 ? made : -1);
                made++;
            }
        }
    }

    /** "Each node v has an IDENTITY ..; it is v + 1 at first" */
    private static void identitiesAsAtFirst() {
        Bench bench = Row.ready();
        bench.net(12);
        for (int v = 0; v < 11; v++) {
            bench.edge(v, v + 1, 1);
        }
        CHECKS.same("anew: ready()", bench.ready(), 0);
        bench.choose(0, 0);
        CHECKS.slot("anew, identities", bench, 0, 1, 2, 3, 4, 5, 6, 7, 8, 9, 10, 11, 12);
    }

    private static void sameSizeIsNewToo() {
        Bench bench = Row.chosen(0);
        CHECKS.same("net(5) of five nodes", bench.net(5), true);
        CHECKS.nothingChosen("behind net(5)", bench);
        CHECKS.same("behind net(5): ready()", bench.ready(), 1);
    }

    private static void makesUnready() {
        for (int algorithm = 0; algorithm < Row.ALGORITHMS; algorithm++) {
            Bench bench = Row.chosen(algorithm);
            bench.round();
            CHECKS.same(algorithm + ": net(1)", bench.net(1), true);
            CHECKS.nothingChosen(algorithm + " behind net(1)", bench);
            CHECKS.notReady(algorithm + " behind net(1)", bench);
            CHECKS.same(algorithm + " behind net(1): ready()", bench.ready(), 0);
            CHECKS.nothingChosen(algorithm + " behind net(1) and ready()", bench);
        }
    }

    private static void refusedKeepsTheNet() {
        for (int n : new int[] {0, 13}) {
            Bench bench = Row.ready();
            CHECKS.same("net(" + n + ")", bench.net(n), false);
            CHECKS.same("behind net(" + n + "): choose(2, 0)", bench.choose(2, 0), true);
            CHECKS.holds("behind net(" + n + ")", bench, Row.FIRST[2]);
            CHECKS.same("behind net(" + n + "): edge(0, 2, 1)", bench.edge(0, 2, 1), 4);
        }
    }
}

/** Promise 3, edge, and what the terms say of edges and weights. */
public final class EdgeTest {
    private static final Checks CHECKS = new Checks();

    public static void main(String[] args) {
        numbers();
        twentyFour();
        allOfSeven();
        nodesAtBothEnds();
        twoDifferentNodes();
        oneBetweenTwo();
        weights();
        extremeArguments();
        weightsAreKept();
        leadsBothWays();
        makesUnready();
        refusedAddsNone();
        CHECKS.end();
    }

    /** "EDGES, numbered from 0 on .. (none at first)" */
    private static void numbers() {
        Bench bench = new Bench();
        bench.net(4);
        CHECKS.same("edge(3, 0, 5)", bench.edge(3, 0, 5), 0);
        CHECKS.same("edge(0, 1, 5)", bench.edge(0, 1, 5), 1);
        CHECKS.same("edge(2, 1, 5)", bench.edge(2, 1, 5), 2);
    }

    /** "24 at most", "NONE when there are 24" */
    private static void twentyFour() {
        Bench bench = new Bench();
        bench.net(12);
        int made = 0;
        for (int a = 0; a < 12; a++) {
            for (int b = a + 1; b < 12; b++) {
                int due = made < 24 ? made : -1;
                CHECKS.same("edge(" + a + ", " + b + ", 1)", bench.edge(a, b, 1), due);
                made++;
            }
        }
        CHECKS.same("24 edges lead everywhere", bench.ready(), 0);
        CHECKS.same("edge(10, 11, 1) is the 25th", bench.edge(10, 11, 1), -1);
        CHECKS.same("and leaves the net ready", bench.choose(6, 3), true);
        CHECKS.slot("and adds no neighbour", bench, 2, 11, 11, 5, 3, 3, 3, 2, 2, 2, 2, 2, 2);
    }

    /** Fewer nodes have fewer than 24 pairs, and an edge for each of them. */
    private static void allOfSeven() {
        Bench bench = new Bench();
        bench.net(7);
        int made = 0;
        for (int a = 0; a < 7; a++) {
            for (int b = 0; b < a; b++) {
                CHECKS.same("of seven: edge(" + a + ", " + b + ", 1)", bench.edge(a, b, 1), made);
                made++;
            }
        }
        CHECKS.same("of seven: edge(0, 6, 1)", bench.edge(0, 6, 1), -1);
        CHECKS.same("of seven: ready()", bench.ready(), 0);
    }

    /** "a and b are not two different nodes": -1, 0, N - 1, N on each side. */
    private static void nodesAtBothEnds() {
        Bench bench = new Bench();
        bench.net(3);
        CHECKS.same("edge(-1, 1, 1)", bench.edge(-1, 1, 1), -1);
        CHECKS.same("edge(1, -1, 1)", bench.edge(1, -1, 1), -1);
        CHECKS.same("edge(3, 1, 1)", bench.edge(3, 1, 1), -1);
        CHECKS.same("edge(1, 3, 1)", bench.edge(1, 3, 1), -1);
        CHECKS.same("edge(-1, 3, 1)", bench.edge(-1, 3, 1), -1);
        CHECKS.same("edge(11, 1, 1)", bench.edge(11, 1, 1), -1);
        CHECKS.same("edge(1, 12, 1)", bench.edge(1, 12, 1), -1);
        CHECKS.same("edge(0, 1, 1)", bench.edge(0, 1, 1), 0);
        CHECKS.same("edge(2, 0, 1)", bench.edge(2, 0, 1), 1);
        bench.net(12);
        CHECKS.same("of twelve: edge(12, 11, 1)", bench.edge(12, 11, 1), -1);
        CHECKS.same("of twelve: edge(11, 12, 1)", bench.edge(11, 12, 1), -1);
        CHECKS.same("of twelve: edge(11, 0, 1)", bench.edge(11, 0, 1), 0);
        CHECKS.same("of twelve: edge(10, 11, 1)", bench.edge(10, 11, 1), 1);
    }

    private static void twoDifferentNodes() {
        Bench bench = new Bench();
        bench.net(12);
        for (int v = -1; v <= 12; v++) {
            CHECKS.same("edge(" + v + ", " + v + ", 1)", bench.edge(v, v, 1), -1);
        }
    }

    /** "there is one between them", in either order and of any weight */
    private static void oneBetweenTwo() {
        Bench bench = new Bench();
        bench.net(3);
        bench.edge(0, 1, 5);
        CHECKS.same("edge(0, 1, 5) again", bench.edge(0, 1, 5), -1);
        CHECKS.same("edge(1, 0, 5) the other way round", bench.edge(1, 0, 5), -1);
        CHECKS.same("edge(0, 1, 6)", bench.edge(0, 1, 6), -1);
        CHECKS.same("edge(1, 2, 5)", bench.edge(1, 2, 5), 1);
        CHECKS.same("edge(2, 1, 1)", bench.edge(2, 1, 1), -1);
        CHECKS.same("edge(0, 2, 5)", bench.edge(0, 2, 5), 2);
    }

    /** "the weight is not 1 .. 999" */
    private static void weights() {
        Bench bench = new Bench();
        bench.net(5);
        CHECKS.same("edge(0, 1, -1)", bench.edge(0, 1, -1), -1);
        CHECKS.same("edge(0, 1, 0)", bench.edge(0, 1, 0), -1);
        CHECKS.same("edge(0, 1, 1)", bench.edge(0, 1, 1), 0);
        CHECKS.same("edge(1, 2, 2)", bench.edge(1, 2, 2), 1);
        CHECKS.same("edge(2, 3, 1000)", bench.edge(2, 3, 1000), -1);
        CHECKS.same("edge(2, 3, 1001)", bench.edge(2, 3, 1001), -1);
        CHECKS.same("edge(2, 3, 999)", bench.edge(2, 3, 999), 2);
        CHECKS.same("edge(3, 4, 998)", bench.edge(3, 4, 998), 3);
        bench.ready();
        bench.choose(1, 0);
        bench.run(50);
        CHECKS.slot("sums of weights", bench, 0, 0, 1, 3, 1002, 2000);
    }

    private static void extremeArguments() {
        Bench bench = Row.chosen(1);
        for (int x : new int[] {Integer.MIN_VALUE, Integer.MIN_VALUE + 1, -65536, 65536, 65537,
            Integer.MAX_VALUE - 1, Integer.MAX_VALUE}) {
            CHECKS.same("edge(" + x + ", 0, 1)", bench.edge(x, 0, 1), -1);
            CHECKS.same("edge(0, " + x + ", 1)", bench.edge(0, x, 1), -1);
            CHECKS.same("edge(" + x + ", " + x + ", 1)", bench.edge(x, x, 1), -1);
            CHECKS.same("edge(0, 2, " + x + ")", bench.edge(0, 2, x), -1);
        }
        CHECKS.same("rounds() behind all that", bench.rounds(), 0);
    }

    /** An edge that is refused leaves the weight of the one that is there. */
    private static void weightsAreKept() {
        Bench bench = new Bench();
        bench.net(2);
        bench.edge(0, 1, 5);
        bench.edge(0, 1, 9);
        bench.edge(1, 0, 1);
        bench.ready();
        bench.choose(1, 0);
        bench.run(50);
        CHECKS.same("the weight that was first", bench.held(1, 0), 5);
    }

    private static void leadsBothWays() {
        for (int[] ends : new int[][] {{0, 1}, {1, 0}}) {
            Bench bench = new Bench();
            bench.net(2);
            bench.edge(ends[0], ends[1], 5);
            bench.ready();
            for (int root = 0; root < 2; root++) {
                bench.choose(1, root);
                bench.run(50);
                CHECKS.same("edge from " + ends[0] + ", root " + root, bench.held(1 - root, 0), 5);
            }
        }
    }

    private static void makesUnready() {
        for (int algorithm = 0; algorithm < Row.ALGORITHMS; algorithm++) {
            Bench bench = Row.chosen(algorithm);
            bench.round();
            CHECKS.same(algorithm + ": edge(0, 4, 1)", bench.edge(0, 4, 1), 4);
            CHECKS.nothingChosen(algorithm + " behind edge()", bench);
            CHECKS.notReady(algorithm + " behind edge()", bench);
            CHECKS.same(algorithm + " behind edge(): ready()", bench.ready(), 0);
            CHECKS.nothingChosen(algorithm + " behind edge() and ready()", bench);
        }
    }

    /** After each refusal the next number is still the same, and no two nodes are neighbours. */
    private static void refusedAddsNone() {
        int[][] refused = {{0, 0, 1}, {-1, 0, 1}, {0, -1, 1}, {4, 0, 1}, {0, 4, 1}, {0, 2, 0}, {0, 2, 1000}};
        for (int[] call : refused) {
            String what = "edge(" + call[0] + ", " + call[1] + ", " + call[2] + ")";
            Bench bench = new Bench();
            bench.net(4);
            CHECKS.same(what, bench.edge(call[0], call[1], call[2]), -1);
            CHECKS.same(what + ": ready() behind it", bench.ready(), 1);
            CHECKS.same(what + ": edge(0, 1, 1) behind it", bench.edge(0, 1, 1), 0);
            bench.edge(1, 2, 1);
            bench.edge(2, 3, 1);
            bench.ready();
            bench.choose(6, 1);
            CHECKS.slot(what + ": neighbours", bench, 2, 1, 2, 2, 1);
        }
    }
}

/** Algorithm 1, WAYS, by promises 7 and 9 to 12. */
public final class WaysTest {
    private static final Checks CHECKS = new Checks();

    public static void main(String[] args) {
        kite();
        twoNodes();
        edgesAtMost();
        greatestSum();
        leastNumberedOfThree();
        sameSumLaterIsNoChange();
        lighterByOne();
        changesInEachRound();
        single();
        CHECKS.end();
    }

    private static void kite() {
        Bench bench = Nets.kite();
        bench.choose(1, 0);
        CHECKS.round("round 1", bench, 2, new int[][] {
            {0, -1, 0}, {4, 0, 1}, {1, 0, 1}, {-1, -1, 0}, {-1, -1, 0}, {-1, -1, 0}});
        CHECKS.round("round 2", bench, 6, new int[][] {
            {0, -1, 0}, {3, 2, 2}, {1, 0, 1}, {9, 1, 2}, {-1, -1, 0}, {-1, -1, 0}});
        CHECKS.round("round 3", bench, 6, new int[][] {
            {0, -1, 0}, {3, 2, 2}, {1, 0, 1}, {8, 1, 3}, {12, 3, 3}, {-1, -1, 0}});
        CHECKS.round("round 4", bench, 5, new int[][] {
            {0, -1, 0}, {3, 2, 2}, {1, 0, 1}, {8, 1, 3}, {11, 3, 4}, {15, 4, 4}});
        int[][] last = {{0, -1, 0}, {3, 2, 2}, {1, 0, 1}, {8, 1, 3}, {11, 3, 4}, {14, 4, 5}};
        CHECKS.round("round 5", bench, 3, last);
        CHECKS.round("round 6", bench, 1, last);
        CHECKS.over("kite", bench, 6, 23, last);
    }

    private static void twoNodes() {
        Bench bench = Nets.path(2);
        bench.choose(1, 1);
        int[][] last = {{7, 1, 1}, {0, -1, 0}};
        CHECKS.round("two, round 1", bench, 1, last);
        CHECKS.round("two, round 2", bench, 1, last);
        CHECKS.over("two", bench, 2, 2, last);
    }

    /** "ways from the root with r edges at most (NONE if there is no such way)", for each r */
    private static void edgesAtMost() {
        for (int r = 0; r <= 12; r++) {
            Bench bench = Nets.path(12);
            bench.choose(1, 11);
            CHECKS.same("path: run(" + r + ")", bench.run(r), r);
            int[][] due = new int[12][];
            for (int v = 0; v < 12; v++) {
                int far = 11 - v;
                boolean reached = far <= r;
                due[v] = new int[] {reached ? 7 * far : -1, reached && far > 0 ? v + 1 : -1, reached ? far : 0};
            }
            CHECKS.holds("path behind " + r, bench, due);
            CHECKS.same("path behind " + r + ": finished()", bench.finished(), r == 12);
        }
    }

    private static void greatestSum() {
        Bench bench = new Bench();
        bench.net(12);
        for (int v = 0; v < 11; v++) {
            bench.edge(v, v + 1, 999);
        }
        bench.ready();
        bench.choose(1, 0);
        bench.run(50);
        CHECKS.same("eleven edges of 999", bench.held(11, 0), 10989);
    }

    /** Three ways of two edges and the sum 10; the edges of node 1 came last. */
    private static void leastNumberedOfThree() {
        Bench bench = new Bench();
        bench.net(5);
        Nets.edges(bench, new int[][] {{3, 4, 1}, {3, 0, 9}, {2, 4, 5}, {2, 0, 5}, {1, 4, 9}, {1, 0, 1}});
        bench.ready();
        bench.choose(1, 0);
        bench.run(50);
        CHECKS.holds("three between", bench, new int[][] {{0, -1, 0}, {1, 0, 1}, {5, 0, 1}, {9, 0, 1}, {10, 1, 2}});
    }

    /** The sum 5 of one edge stays, with its round and its neighbour, beside 2 + 3 by node 1. */
    private static void sameSumLaterIsNoChange() {
        Bench bench = new Bench();
        bench.net(3);
        Nets.edges(bench, new int[][] {{2, 0, 5}, {2, 1, 2}, {1, 0, 3}});
        bench.ready();
        bench.choose(1, 2);
        int[][] last = {{5, 2, 1}, {2, 2, 1}, {0, -1, 0}};
        CHECKS.round("same sum, round 1", bench, 2, last);
        CHECKS.round("same sum, round 2", bench, 4, last);
        CHECKS.over("same sum", bench, 2, 6, last);
    }

    private static void lighterByOne() {
        Bench bench = new Bench();
        bench.net(3);
        Nets.edges(bench, new int[][] {{2, 0, 999}, {2, 1, 997}, {1, 0, 1}});
        bench.ready();
        bench.choose(1, 2);
        CHECKS.round("lighter, round 1", bench, 2, new int[][] {{999, 2, 1}, {997, 2, 1}, {0, -1, 0}});
        int[][] last = {{998, 1, 2}, {997, 2, 1}, {0, -1, 0}};
        CHECKS.round("lighter, round 2", bench, 4, last);
        CHECKS.round("lighter, round 3", bench, 2, last);
        CHECKS.over("lighter", bench, 3, 8, last);
    }

    /** Node 4 gets a lighter way with each edge more. */
    private static void changesInEachRound() {
        Bench bench = new Bench();
        bench.net(5);
        Nets.edges(bench, new int[][] {{0, 4, 100}, {0, 1, 1}, {1, 4, 90}, {1, 2, 1}, {2, 4, 80}, {2, 3, 1}, {3, 4, 70}});
        bench.ready();
        bench.choose(1, 0);
        int[][] due = {{100, 0, 1}, {91, 1, 2}, {82, 2, 3}, {73, 3, 4}};
        for (int round = 1; round <= 4; round++) {
            bench.round();
            for (int slot = 0; slot < 3; slot++) {
                CHECKS.same("round " + round + ": held(4, " + slot + ")", bench.held(4, slot), due[round - 1][slot]);
            }
        }
        CHECKS.same("round() 5: node 4 to all", bench.round(), 4);
        CHECKS.same("finished() then", bench.finished(), true);
    }

    private static void single() {
        Bench bench = Nets.single();
        bench.choose(1, 0);
        CHECKS.over("one node", bench, 0, 0, new int[][] {{0, -1, 0}});
    }
}

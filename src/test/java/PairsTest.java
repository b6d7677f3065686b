/** Algorithm 5, PAIRS, by promises 7 and 9 to 12. */
public final class PairsTest {
    private static final Checks CHECKS = new Checks();

    public static void main(String[] args) {
        kite();
        twoNodes();
        sameWeights();
        leftAlone();
        heavierByOne();
        lesserNumberOfTheSameWeight();
        firstAndLastEdge();
        longest();
        star();
        single();
        CHECKS.end();
    }

    private static void kite() {
        Bench bench = Nets.kite();
        bench.choose(5, 0);
        CHECKS.round("round 1", bench, 14, new int[][] {
            {-1, 0, -1}, {-1, 0, -1}, {3, 1, -1}, {2, 1, -1}, {-1, 0, -1}, {-1, 0, -1}});
        int[][] last = {{1, 2, -1}, {0, 2, -1}, {3, 1, -1}, {2, 1, -1}, {5, 2, -1}, {4, 2, -1}};
        CHECKS.round("round 2", bench, 4, last);
        CHECKS.over("kite", bench, 2, 18, last);
    }

    /** There are no others, so the edge is heavier than all of them. */
    private static void twoNodes() {
        for (int weight : new int[] {1, 999}) {
            Bench bench = new Bench();
            bench.net(2);
            bench.edge(1, 0, weight);
            bench.ready();
            bench.choose(5, 0);
            int[][] last = {{1, 1, -1}, {0, 1, -1}};
            CHECKS.round("two", bench, 2, last);
            CHECKS.over("two", bench, 1, 2, last);
        }
    }

    // Edge 2 is the heaviest at node 3 alone, which is not enough while node 2 has edge 1.
    private static void sameWeights() {
        Bench bench = Nets.path(4);
        bench.choose(5, 0);
        CHECKS.round("path, round 1", bench, 6, new int[][] {
            {1, 1, -1}, {0, 1, -1}, {-1, 0, -1}, {-1, 0, -1}});
        int[][] last = {{1, 1, -1}, {0, 1, -1}, {3, 2, -1}, {2, 2, -1}};
        CHECKS.round("path, round 2", bench, 2, last);
        CHECKS.over("path", bench, 2, 8, last);
    }

    private static void leftAlone() {
        Bench bench = new Bench();
        bench.net(4);
        Nets.edges(bench, new int[][] {{1, 2, 7}, {0, 1, 7}, {2, 3, 7}});
        bench.ready();
        bench.choose(5, 0);
        int[][] last = {{-1, 0, -1}, {2, 1, -1}, {1, 1, -1}, {-1, 0, -1}};
        CHECKS.round("middle first", bench, 6, last);
        CHECKS.over("middle first", bench, 1, 6, last);
    }

    /** The greater weight goes before the lesser number, at the bounds of weights too. */
    private static void heavierByOne() {
        for (int[] weights : new int[][] {{1, 2}, {998, 999}, {1, 999}}) {
            Bench bench = new Bench();
            bench.net(3);
            bench.edge(0, 1, weights[0]);
            bench.edge(1, 2, weights[1]);
            bench.ready();
            bench.choose(5, 0);
            int[][] last = {{-1, 0, -1}, {2, 1, -1}, {1, 1, -1}};
            CHECKS.round("edge 1 is heavier", bench, 4, last);
            CHECKS.over("edge 1 is heavier", bench, 1, 4, last);
        }
    }

    /** "of the same weights the one with the lesser number", though nodes have lesser ones */
    private static void lesserNumberOfTheSameWeight() {
        Bench bench = new Bench();
        bench.net(3);
        Nets.edges(bench, new int[][] {{2, 1, 5}, {1, 0, 5}, {0, 2, 5}});
        bench.ready();
        bench.choose(5, 0);
        int[][] last = {{-1, 0, -1}, {2, 1, -1}, {1, 1, -1}};
        CHECKS.round("triangle", bench, 6, last);
        CHECKS.over("triangle", bench, 1, 6, last);
    }

    /** Edges 0 and 23 of twelve nodes, all of one weight but for the heaviest. */
    private static void firstAndLastEdge() {
        for (int heaviest : new int[] {0, 23}) {
            Bench bench = new Bench();
            bench.net(12);
            for (int e = 0; e < 24; e++) {
                int a = e < 11 ? 0 : e < 21 ? 1 : 2;
                int b = e < 11 ? e + 1 : e < 21 ? e - 9 : e - 18;
                bench.edge(a, b, e == heaviest ? 999 : 998);
            }
            bench.ready();
            bench.choose(5, 0);
            CHECKS.same("24 edges: round() 1", bench.round(), 48);
            CHECKS.slot("24 edges, heaviest " + heaviest, bench, 0, 1, 0, heaviest == 23 ? 5 : -1);
            CHECKS.same("24 edges, heaviest " + heaviest, bench.held(5, 0), heaviest == 23 ? 2 : -1);
            CHECKS.same("24 edges: run(50)", bench.run(50), heaviest == 23 ? 0 : 1);
            CHECKS.same("24 edges: held(2, 0) at the end", bench.held(2, 0), heaviest == 23 ? 5 : 3);
        }
    }

    /** Of falling weights one pair comes in each round, from the heavy end on. */
    private static void longest() {
        Bench bench = new Bench();
        bench.net(12);
        for (int v = 0; v < 11; v++) {
            bench.edge(v, v + 1, 999 - v);
        }
        bench.ready();
        bench.choose(5, 0);
        int[] letters = {22, 18, 14, 10, 6, 2};
        for (int round = 1; round <= 6; round++) {
            CHECKS.same("longest: finished() before " + round, bench.finished(), false);
            CHECKS.same("longest: round() " + round, bench.round(), letters[round - 1]);
        }
        CHECKS.same("longest: finished()", bench.finished(), true);
        CHECKS.slot("longest", bench, 0, 1, 0, 3, 2, 5, 4, 7, 6, 9, 8, 11, 10);
        CHECKS.slot("longest", bench, 1, 1, 1, 2, 2, 3, 3, 4, 4, 5, 5, 6, 6);
    }

    /** "Finished when no two neighbours have NONE": ten of twelve nodes still have it then. */
    private static void star() {
        Bench bench = Nets.star(12, 11);
        bench.choose(5, 0);
        CHECKS.same("star: round()", bench.round(), 22);
        CHECKS.slot("star", bench, 0, 11, -1, -1, -1, -1, -1, -1, -1, -1, -1, -1, 0);
        CHECKS.slot("star", bench, 1, 1, 0, 0, 0, 0, 0, 0, 0, 0, 0, 0, 1);
        CHECKS.same("star: finished()", bench.finished(), true);
    }

    private static void single() {
        Bench bench = Nets.single();
        bench.choose(5, 0);
        CHECKS.over("one node", bench, 0, 0, new int[][] {{-1, 0, -1}});
    }
}

/** Algorithm 5, PAIRS, by promises 7 and 9 to 12. */
public final class PairsTest {
    private static final Checks CHECKS = new Checks();

    public static void main(String[] args) {
        kite();
        sameWeights();
        leftAlone();
        single();
        CHECKS.end();
    }

    private static void kite() {
        Bench bench = Nets.kite();
        bench.choose(5, 0);
        CHECKS.round("round 1", bench, 14, new int[][] {
            {-1, 0, -1}, {-1, 0, -1}, {3, 1, -1}, {2, 1, -1}, {-1, 0, -1}, {-1, 0, -1}});
        int[][] last = {{1, 2, -1}, {0, 2, -1}, {3, 1, -1}, {2, 1, -1}, {5, 2, -1}, {4, 2, -1}};
        CHECKS.round("round 2", bench, 4, last);
        CHECKS.over("kite", bench, 2, 18, last);
    }

    // Edge 2 is the heaviest at node 3 alone, which is not enough while node 2 has edge 1.
    private static void sameWeights() {
        Bench bench = Nets.path(4);
        bench.choose(5, 0);
        CHECKS.round("path, round 1", bench, 6, new int[][] {
            {1, 1, -1}, {0, 1, -1}, {-1, 0, -1}, {-1, 0, -1}});
        int[][] last = {{1, 1, -1}, {0, 1, -1}, {3, 2, -1}, {2, 2, -1}};
        CHECKS.round("path, round 2", bench, 2, last);
        CHECKS.over("path", bench, 2, 8, last);
    }

    private static void leftAlone() {
        Bench bench = new Bench();
        bench.net(4);
        Nets.edges(bench, new int[][] {{1, 2, 7}, {0, 1, 7}, {2, 3, 7}});
        bench.ready();
        bench.choose(5, 0);
        int[][] last = {{-1, 0, -1}, {2, 1, -1}, {1, 1, -1}, {-1, 0, -1}};
        CHECKS.round("middle first", bench, 6, last);
        CHECKS.over("middle first", bench, 1, 6, last);
    }

    private static void single() {
        Bench bench = Nets.single();
        bench.choose(5, 0);
        CHECKS.over("one node", bench, 0, 0, new int[][] {{-1, 0, -1}});
    }
}

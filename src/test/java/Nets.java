/** Nets that several tests use. */
final class Nets {
    private Nets() {
    }

    /**
     * Six nodes: 0, 1, 2, 3 with all edges between them but 0 - 3, and a tail 3 - 4 - 5. Ties are
     * in it: 1 and 2 are both nearer to 0 than 3 is, and both ways of two edges to 3 weigh 9.
     */
    static RoundBench kite() {
        RoundBench bench = new RoundBench();
        bench.net(6);
        edges(bench, new int[][] {
            {0, 1, 4}, {0, 2, 1}, {2, 1, 2}, {1, 3, 5}, {2, 3, 8}, {3, 4, 3}, {4, 5, 3}});
        identities(bench, 50, 20, 70, 10, 90, 40);
        bench.ready();
        return bench;
    }

    /** Nodes 0 - 1 - .. in a row, edge i between i and i + 1, all of one weight. */
    static RoundBench path(int n) {
        RoundBench bench = new RoundBench();
        bench.net(n);
        for (int v = 0; v + 1 < n; v++) {
            bench.edge(v, v + 1, 7);
        }
        bench.ready();
        return bench;
    }

    static RoundBench single() {
        RoundBench bench = new RoundBench();
        bench.ready();
        return bench;
    }

    static void edges(RoundBench bench, int[][] edges) {
        for (int[] edge : edges) {
            bench.edge(edge[0], edge[1], edge[2]);
        }
    }

    static void identities(RoundBench bench, int... ids) {
        for (int v = 0; v < ids.length; v++) {
            bench.identity(v, ids[v]);
        }
    }
}

/** Nets that several tests use. */
final class Nets {
    private Nets() {
    }

    /**
     * Six nodes: 0, 1, 2, 3 with all edges between them but 0 - 3, and a tail 3 - 4 - 5. Ties are
     * in it: 1 and 2 are both nearer to 0 than 3 is, and both ways of two edges to 3 weigh 9.
     */
    static Bench kite() {
        Bench bench = new Bench();
        bench.net(6);
        edges(bench, new int[][] {
            {0, 1, 4}, {0, 2, 1}, {2, 1, 2}, {1, 3, 5}, {2, 3, 8}, {3, 4, 3}, {4, 5, 3}});
        identities(bench, 50, 20, 70, 10, 90, 40);
        bench.ready();
        return bench;
    }

    /** Nodes 0 - 1 - .. in a row, edge i between i and i + 1, all of one weight. */
    static Bench path(int n) {
        Bench bench = new Bench();
        bench.net(n);
        for (int v = 0; v + 1 < n; v++) {
            bench.edge(v, v + 1, 7);
        }
        bench.ready();
        return bench;
    }

    /** A path that is closed by an edge n - 1 between its ends. */
    static Bench ring(int n) {
        Bench bench = path(n);
        bench.edge(n - 1, 0, 7);
        bench.ready();
        return bench;
    }

    /** One node in the middle that is the neighbour of all others, which have no other one. */
    static Bench star(int n, int middle) {
        Bench bench = new Bench();
        bench.net(n);
        for (int v = 0; v < n; v++) {
            if (v != middle) {
                bench.edge(middle, v, 7);
            }
        }
        bench.ready();
        return bench;
    }

    static Bench single() {
        Bench bench = new Bench();
        bench.ready();
        return bench;
    }

    /** Twelve nodes and all 24 edges: the eleven of node 0, the ten others of 1, three of 2. */
    static Bench full() {
        Bench bench = new Bench();
        bench.net(12);
        for (int e = 0; e < 24; e++) {
            int a = e < 11 ? 0 : e < 21 ? 1 : 2;
            int b = e < 11 ? e + 1 : e < 21 ? e - 9 : e - 18;
            bench.edge(a, b, e + 1);
        }
        bench.ready();
        return bench;
    }

    static void edges(Bench bench, int[][] edges) {
        for (int[] edge : edges) {
            bench.edge(edge[0], edge[1], edge[2]);
        }
    }

    static void identities(Bench bench, int... ids) {
        for (int v = 0; v < ids.length; v++) {
            bench.identity(v, ids[v]);
        }
    }
}

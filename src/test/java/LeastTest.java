/** Algorithm 0, LEAST, by promises 7 and 9 to 12. */
public final class LeastTest {
    private static final Checks CHECKS = new Checks();

    public static void main(String[] args) {
        kite();
        twoNodes();
        farOrNearer();
        farOrNearerDownwards();
        leastNumberedOfThree();
        leastNumberedIsNotNearer();
        leastAndGreatestIdentity();
        sendsBehindAChangeAlone();
        single();
        CHECKS.end();
    }

    private static void kite() {
        Bench bench = Nets.kite();
        bench.choose(0, 0);
        CHECKS.round("round 1", bench, 14, new int[][] {
            {20, 1, 1}, {10, 1, 3}, {10, 1, 3}, {10, 0, -1}, {10, 1, 3}, {40, 0, -1}});
        int[][] last = {{10, 2, 1}, {10, 1, 3}, {10, 1, 3}, {10, 0, -1}, {10, 1, 3}, {10, 2, 4}};
        CHECKS.round("round 2", bench, 10, last);
        CHECKS.round("round 3", bench, 3, last);
        CHECKS.over("kite", bench, 3, 27, last);
    }

    private static void twoNodes() {
        Bench bench = Nets.path(2);
        bench.choose(0, 0);
        CHECKS.holds("two, at first", bench, new int[][] {{1, 0, -1}, {2, 0, -1}});
        int[][] last = {{1, 0, -1}, {1, 1, 0}};
        CHECKS.round("two, round 1", bench, 2, last);
        CHECKS.round("two, round 2", bench, 1, last);
        CHECKS.over("two", bench, 2, 3, last);
    }

    /** "all nodes that are r edges far or nearer": r + 1 edges are too far, for each r. */
    private static void farOrNearer() {
        for (int r = 0; r <= 12; r++) {
            Bench bench = Nets.path(12);
            bench.choose(0, 0);
            CHECKS.same("path: run(" + r + ")", bench.run(r), r);
            int[][] due = new int[12][];
            for (int v = 0; v < 12; v++) {
                int far = Math.min(r, v);
                due[v] = new int[] {v - far + 1, far, far == 0 ? -1 : v - 1};
            }
            CHECKS.holds("path behind " + r, bench, due);
            CHECKS.same("path behind " + r + ": finished()", bench.finished(), r == 12);
        }
    }

    private static void farOrNearerDownwards() {
        Bench bench = Nets.path(12);
        for (int v = 0; v < 12; v++) {
            bench.identity(v, 999 - v);
        }
        bench.ready();
        bench.choose(0, 0);
        bench.run(10);
        CHECKS.slot("down, behind 10: node 0", bench, 0, 989);
        CHECKS.same("down: round() 11", bench.round(), 3);
        CHECKS.slot("down, behind 11: node 0", bench, 0, 988);
        CHECKS.same("down: how far", bench.held(0, 1), 11);
        CHECKS.same("down: by whom", bench.held(0, 2), 1);
        CHECKS.same("down: round() 12", bench.round(), 1);
        CHECKS.same("down: letters()", bench.letters(), 22 + (21 + 19 + 17 + 15 + 13 + 11 + 9 + 7 + 5 + 3 + 1));
        CHECKS.same("down: finished()", bench.finished(), true);
    }

    /** Nodes 1, 2, 3 lie all between 0 and 4, so 1 is named, though its edge came last. */
    private static void leastNumberedOfThree() {
        Bench bench = new Bench();
        bench.net(5);
        Nets.edges(bench, new int[][] {{3, 4, 1}, {3, 0, 1}, {2, 4, 1}, {2, 0, 1}, {1, 4, 1}, {1, 0, 1}});
        Nets.identities(bench, 5, 9, 8, 7, 6);
        bench.ready();
        bench.choose(0, 0);
        bench.run(50);
        CHECKS.holds("three between", bench, new int[][] {{5, 0, -1}, {5, 1, 0}, {5, 1, 0}, {5, 1, 0}, {5, 2, 1}});
    }

    /** Node 0 is the least-numbered neighbour of 1 and 3, but farther from node 2 than they are. */
    private static void leastNumberedIsNotNearer() {
        Bench bench = new Bench();
        bench.net(4);
        Nets.edges(bench, new int[][] {{0, 3, 1}, {3, 2, 1}, {2, 1, 1}, {0, 1, 1}});
        Nets.identities(bench, 40, 30, 10, 20);
        bench.ready();
        bench.choose(0, 0);
        bench.run(50);
        CHECKS.holds("ring", bench, new int[][] {{10, 2, 1}, {10, 1, 2}, {10, 0, -1}, {10, 1, 2}});
    }

    private static void leastAndGreatestIdentity() {
        Bench bench = Nets.path(3);
        Nets.identities(bench, 999, 998, 1);
        bench.ready();
        bench.choose(0, 0);
        CHECKS.round("999, 998, 1", bench, 4, new int[][] {{998, 1, 1}, {1, 1, 2}, {1, 0, -1}});
        CHECKS.round("999, 998, 1", bench, 3, new int[][] {{1, 2, 1}, {1, 1, 2}, {1, 0, -1}});
        CHECKS.round("999, 998, 1", bench, 1, new int[][] {{1, 2, 1}, {1, 1, 2}, {1, 0, -1}});
        CHECKS.same("999, 998, 1: finished()", bench.finished(), true);
    }

    /** The middle of a star has the least: it sends once, the others once more, to it alone. */
    private static void sendsBehindAChangeAlone() {
        Bench bench = Nets.star(12, 0);
        bench.choose(0, 0);
        CHECKS.same("star: round() 1", bench.round(), 22);
        CHECKS.same("star: round() 2", bench.round(), 11);
        CHECKS.same("star: round() 3", bench.round(), -1);
    }

    private static void single() {
        Bench bench = Nets.single();
        bench.choose(0, 0);
        CHECKS.over("one node", bench, 0, 0, new int[][] {{1, 0, -1}});
    }
}

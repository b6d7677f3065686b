/** Algorithm 4, CHOSEN, by promises 7 and 9 to 12. */
public final class ChosenTest {
    private static final Checks CHECKS = new Checks();

    public static void main(String[] args) {
        kite();
        fallingPath();
        twoNodes();
        greatestInTheMiddle();
        leastInTheMiddle();
        greatestIsLeftOutAlready();
        leftOutOnesLeaveNobodyOut();
        longest();
        single();
        CHECKS.end();
    }

    private static void kite() {
        Bench bench = Nets.kite();
        bench.choose(4, 0);
        int[][] last = {{2, 1, -1}, {2, 1, -1}, {1, 1, -1}, {2, 1, -1}, {1, 1, -1}, {2, 1, -1}};
        CHECKS.round("round 1", bench, 14, last);
        CHECKS.over("kite", bench, 1, 14, last);
    }

    /** At the end the last node has no neighbour with 0: nothing is sent, and it is chosen. */
    private static void fallingPath() {
        Bench bench = Nets.path(5);
        Nets.identities(bench, 5, 4, 3, 2, 1);
        bench.ready();
        bench.choose(4, 0);
        CHECKS.round("path, round 1", bench, 8, new int[][] {
            {1, 1, -1}, {2, 1, -1}, {0, 0, -1}, {0, 0, -1}, {0, 0, -1}});
        CHECKS.round("path, round 2", bench, 4, new int[][] {
            {1, 1, -1}, {2, 1, -1}, {1, 2, -1}, {2, 2, -1}, {0, 0, -1}});
        int[][] last = {{1, 1, -1}, {2, 1, -1}, {1, 2, -1}, {2, 2, -1}, {1, 3, -1}};
        CHECKS.round("path, round 3", bench, 0, last);
        CHECKS.over("path", bench, 3, 12, last);
    }

    /** Identities at the bounds, and one less than the greatest. */
    private static void twoNodes() {
        for (int[] ids : new int[][] {{1, 2}, {1, 999}, {998, 999}}) {
            Bench bench = Nets.path(2);
            Nets.identities(bench, ids);
            bench.ready();
            bench.choose(4, 0);
            int[][] last = {{2, 1, -1}, {1, 1, -1}};
            CHECKS.round("two, the greater is 1", bench, 2, last);
            CHECKS.over("two, the greater is 1", bench, 1, 2, last);
            Nets.identities(bench, ids[1], ids[0]);
            bench.ready();
            bench.choose(4, 0);
            CHECKS.round("two, the greater is 0", bench, 2, new int[][] {{1, 1, -1}, {2, 1, -1}});
        }
    }

    private static void greatestInTheMiddle() {
        Bench bench = Nets.star(12, 11);
        bench.choose(4, 0);
        CHECKS.same("middle: round()", bench.round(), 22);
        CHECKS.slot("middle", bench, 0, 2, 2, 2, 2, 2, 2, 2, 2, 2, 2, 2, 1);
        CHECKS.slot("middle", bench, 1, 1, 1, 1, 1, 1, 1, 1, 1, 1, 1, 1, 1);
        CHECKS.same("middle: finished()", bench.finished(), true);
    }

    private static void leastInTheMiddle() {
        Bench bench = Nets.star(12, 0);
        bench.choose(4, 0);
        CHECKS.same("rim: round()", bench.round(), 22);
        CHECKS.slot("rim", bench, 0, 2, 1, 1, 1, 1, 1, 1, 1, 1, 1, 1, 1);
        CHECKS.same("rim: finished()", bench.finished(), true);
    }

    /** Node 2 is greater than 1 once 3, left out in round 1, sends it nothing any more. */
    private static void greatestIsLeftOutAlready() {
        Bench bench = Nets.path(5);
        Nets.identities(bench, 10, 20, 30, 40, 50);
        bench.ready();
        bench.choose(4, 0);
        CHECKS.round("rising, round 1", bench, 8, new int[][] {
            {0, 0, -1}, {0, 0, -1}, {0, 0, -1}, {2, 1, -1}, {1, 1, -1}});
        CHECKS.round("rising, round 2", bench, 4, new int[][] {
            {0, 0, -1}, {2, 2, -1}, {1, 2, -1}, {2, 1, -1}, {1, 1, -1}});
        int[][] last = {{1, 3, -1}, {2, 2, -1}, {1, 2, -1}, {2, 1, -1}, {1, 1, -1}};
        CHECKS.round("rising, round 3", bench, 0, last);
        CHECKS.over("rising", bench, 3, 12, last);
    }

    /**
     * "a neighbour which is chosen in this round": node 1 has a greater identity than its neighbour
     * 2 and all others with 0 beside it, but it is left out itself, so 2 stays in round 2.
     */
    private static void leftOutOnesLeaveNobodyOut() {
        Bench bench = Nets.path(7);
        Nets.identities(bench, 50, 40, 10, 20, 30, 45, 60);
        bench.ready();
        bench.choose(4, 0);
        CHECKS.round("left out, round 1", bench, 12, new int[][] {
            {1, 1, -1}, {2, 1, -1}, {0, 0, -1}, {0, 0, -1}, {0, 0, -1}, {2, 1, -1}, {1, 1, -1}});
        CHECKS.round("left out, round 2", bench, 4, new int[][] {
            {1, 1, -1}, {2, 1, -1}, {0, 0, -1}, {2, 2, -1}, {1, 2, -1}, {2, 1, -1}, {1, 1, -1}});
        int[][] last = {{1, 1, -1}, {2, 1, -1}, {1, 3, -1}, {2, 2, -1}, {1, 2, -1}, {2, 1, -1}, {1, 1, -1}};
        CHECKS.round("left out, round 3", bench, 0, last);
        CHECKS.over("left out", bench, 3, 16, last);
    }

    private static void longest() {
        Bench bench = Nets.path(12);
        bench.choose(4, 0);
        int[] letters = {22, 18, 14, 10, 6, 2};
        for (int round = 1; round <= 6; round++) {
            CHECKS.same("longest: finished() before " + round, bench.finished(), false);
            CHECKS.same("longest: round() " + round, bench.round(), letters[round - 1]);
        }
        CHECKS.same("longest: finished()", bench.finished(), true);
        CHECKS.slot("longest", bench, 0, 2, 1, 2, 1, 2, 1, 2, 1, 2, 1, 2, 1);
        CHECKS.slot("longest", bench, 1, 6, 6, 5, 5, 4, 4, 3, 3, 2, 2, 1, 1);
    }

    private static void single() {
        Bench bench = Nets.single();
        bench.choose(4, 0);
        CHECKS.round("one node", bench, 0, new int[][] {{1, 1, -1}});
        CHECKS.over("one node", bench, 1, 0, new int[][] {{1, 1, -1}});
    }
}

/** Algorithm 7, SIDES, by promises 7 and 9 to 12. */
public final class SidesTest {
    private static final Checks CHECKS = new Checks();

    public static void main(String[] args) {
        kite();
        twoNodes();
        evenRing();
        oddRing();
        triangle();
        longest();
        star();
        slotOneStays();
        single();
        CHECKS.end();
    }

    private static void kite() {
        Bench bench = Nets.kite();
        bench.choose(7, 0);
        CHECKS.round("round 1", bench, 2, new int[][] {
            {0, 0, 0}, {1, 0, 1}, {1, 0, 1}, {-1, 0, 0}, {-1, 0, 0}, {-1, 0, 0}});
        CHECKS.round("round 2", bench, 6, new int[][] {
            {0, 0, 0}, {1, 1, 1}, {1, 1, 1}, {0, 0, 2}, {-1, 0, 0}, {-1, 0, 0}});
        CHECKS.round("round 3", bench, 3, new int[][] {
            {0, 0, 0}, {1, 1, 1}, {1, 1, 1}, {0, 0, 2}, {1, 0, 3}, {-1, 0, 0}});
        int[][] last = {{0, 0, 0}, {1, 1, 1}, {1, 1, 1}, {0, 0, 2}, {1, 0, 3}, {0, 0, 4}};
        CHECKS.round("round 4", bench, 2, last);
        CHECKS.round("round 5", bench, 1, last);
        CHECKS.over("kite", bench, 5, 14, last);
    }

    private static void twoNodes() {
        Bench bench = Nets.path(2);
        bench.choose(7, 1);
        CHECKS.holds("two, at first", bench, new int[][] {{-1, 0, 0}, {0, 0, 0}});
        int[][] last = {{1, 0, 1}, {0, 0, 0}};
        CHECKS.round("two, round 1", bench, 1, last);
        CHECKS.round("two, round 2", bench, 1, last);
        CHECKS.over("two", bench, 2, 2, last);
    }

    /** Two letters come to the node across at once; both say the same, and it takes the other. */
    private static void evenRing() {
        Bench bench = Nets.ring(4);
        bench.choose(7, 1);
        CHECKS.same("ring: run(50)", bench.run(50), 3);
        CHECKS.over("ring", bench, 3, 8, new int[][] {{1, 0, 1}, {0, 0, 0}, {1, 0, 1}, {0, 0, 2}});
    }

    /** Two that got theirs in one round find it out in the next one. */
    private static void oddRing() {
        Bench bench = Nets.ring(5);
        bench.choose(7, 0);
        bench.run(2);
        CHECKS.holds("ring of five, behind 2", bench, new int[][] {
            {0, 0, 0}, {1, 0, 1}, {0, 0, 2}, {0, 0, 2}, {1, 0, 1}});
        int[][] last = {{0, 0, 0}, {1, 0, 1}, {0, 1, 2}, {0, 1, 2}, {1, 0, 1}};
        CHECKS.round("ring of five, round 3", bench, 4, last);
        CHECKS.over("ring of five", bench, 3, 10, last);
    }

    private static void triangle() {
        Bench bench = Nets.ring(3);
        bench.choose(7, 2);
        CHECKS.round("triangle, round 1", bench, 2, new int[][] {{1, 0, 1}, {1, 0, 1}, {0, 0, 0}});
        int[][] last = {{1, 1, 1}, {1, 1, 1}, {0, 0, 0}};
        CHECKS.round("triangle, round 2", bench, 4, last);
        CHECKS.over("triangle", bench, 2, 6, last);
    }

    /** After r rounds those that are r edges far hold theirs, those r + 1 edges far do not. */
    private static void longest() {
        for (int r = 0; r <= 12; r++) {
            Bench bench = Nets.path(12);
            bench.choose(7, 11);
            CHECKS.same("longest: run(" + r + ")", bench.run(r), r);
            int[][] due = new int[12][];
            for (int v = 0; v < 12; v++) {
                int far = 11 - v;
                due[v] = far <= r ? new int[] {far % 2, 0, far} : new int[] {-1, 0, 0};
            }
            CHECKS.holds("longest behind " + r, bench, due);
            CHECKS.same("longest behind " + r + ": finished()", bench.finished(), r == 12);
        }
    }

    private static void star() {
        Bench bench = Nets.star(12, 11);
        bench.choose(7, 11);
        CHECKS.same("star: round() 1", bench.round(), 11);
        CHECKS.slot("star", bench, 0, 1, 1, 1, 1, 1, 1, 1, 1, 1, 1, 1, 0);
        CHECKS.same("star: round() 2", bench.round(), 11);
        CHECKS.same("star: finished()", bench.finished(), true);
        CHECKS.slot("star", bench, 1, 0, 0, 0, 0, 0, 0, 0, 0, 0, 0, 0, 0);
    }

    /** "has 1 in slot 1 from then on": a triangle with a long tail, which goes on for rounds. */
    private static void slotOneStays() {
        Bench bench = Nets.path(8);
        bench.edge(0, 2, 1);
        bench.ready();
        bench.choose(7, 0);
        bench.run(1);
        CHECKS.slot("tail behind 1", bench, 1, 0, 0, 0, 0, 0, 0, 0, 0);
        for (int round = 2; round <= 7; round++) {
            bench.round();
            CHECKS.slot("tail behind " + round, bench, 1, 0, 1, 1, 0, 0, 0, 0, 0);
        }
        CHECKS.same("tail: finished()", bench.finished(), true);
    }

    private static void single() {
        Bench bench = Nets.single();
        bench.choose(7, 0);
        CHECKS.over("one node", bench, 0, 0, new int[][] {{0, 0, 0}});
    }
}

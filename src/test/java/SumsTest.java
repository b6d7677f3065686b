/** Algorithm 2, SUMS, and THE TREE of the terms, by promises 7 and 9 to 12. */
public final class SumsTest {
    private static final Checks CHECKS = new Checks();

    public static void main(String[] args) {
        kite();
        star();
        twoNodes();
        rootInTheMiddle();
        longest();
        mostChildren();
        leastNumberedParent();
        sameDistanceIsNoParent();
        single();
        CHECKS.end();
    }

    private static void kite() {
        Bench bench = Nets.kite();
        bench.choose(2, 0);
        CHECKS.round("round 1", bench, 2, new int[][] {
            {120, 1, 0}, {20, 1, 0}, {70, 0, 1}, {10, 1, 0}, {130, 0, 0}, {40, 0, 1}});
        CHECKS.round("round 2", bench, 1, new int[][] {
            {120, 1, 0}, {20, 1, 0}, {70, 0, 1}, {140, 0, 0}, {130, 0, 1}, {40, 0, 1}});
        CHECKS.round("round 3", bench, 1, new int[][] {
            {120, 1, 0}, {160, 0, 0}, {70, 0, 1}, {140, 0, 1}, {130, 0, 1}, {40, 0, 1}});
        CHECKS.round("round 4", bench, 1, new int[][] {
            {280, 0, 0}, {160, 0, 1}, {70, 0, 1}, {140, 0, 1}, {130, 0, 1}, {40, 0, 1}});
        int[][] last = {{280, 0, 1}, {160, 0, 1}, {70, 0, 1}, {140, 0, 1}, {130, 0, 1}, {40, 0, 1}};
        CHECKS.round("round 5", bench, 0, last);
        CHECKS.over("kite", bench, 5, 5, last);
    }

    private static void star() {
        Bench bench = new Bench();
        bench.net(4);
        Nets.edges(bench, new int[][] {{3, 0, 1}, {3, 1, 1}, {3, 2, 1}});
        Nets.identities(bench, 999, 998, 997, 996);
        bench.ready();
        bench.choose(2, 3);
        CHECKS.round("star, round 1", bench, 3, new int[][] {
            {999, 0, 1}, {998, 0, 1}, {997, 0, 1}, {3990, 0, 0}});
        int[][] last = {{999, 0, 1}, {998, 0, 1}, {997, 0, 1}, {3990, 0, 1}};
        CHECKS.round("star, round 2", bench, 0, last);
        CHECKS.over("star", bench, 2, 3, last);
    }

    private static void twoNodes() {
        Bench bench = Nets.path(2);
        bench.choose(2, 1);
        CHECKS.round("two, round 1", bench, 1, new int[][] {{1, 0, 1}, {3, 0, 0}});
        CHECKS.round("two, round 2", bench, 0, new int[][] {{1, 0, 1}, {3, 0, 1}});
        CHECKS.over("two", bench, 2, 1, new int[][] {{1, 0, 1}, {3, 0, 1}});
    }

    /** "takes 1 from slot 1 for each": of both children at once, and of one before the other. */
    private static void rootInTheMiddle() {
        Bench bench = Nets.path(3);
        bench.choose(2, 1);
        CHECKS.holds("middle, at first", bench, new int[][] {{1, 0, 0}, {2, 2, 0}, {3, 0, 0}});
        CHECKS.round("middle, round 1", bench, 2, new int[][] {{1, 0, 1}, {6, 0, 0}, {3, 0, 1}});
        Bench longer = Nets.path(4);
        longer.choose(2, 1);
        CHECKS.round("of four, round 1", longer, 2, new int[][] {{1, 0, 1}, {3, 1, 0}, {7, 0, 0}, {4, 0, 1}});
        CHECKS.round("of four, round 2", longer, 1, new int[][] {{1, 0, 1}, {10, 0, 0}, {7, 0, 1}, {4, 0, 1}});
        CHECKS.same("of four: finished() before the root has 1", longer.finished(), false);
        CHECKS.round("of four, round 3", longer, 0, new int[][] {{1, 0, 1}, {10, 0, 1}, {7, 0, 1}, {4, 0, 1}});
        CHECKS.same("of four: finished()", longer.finished(), true);
    }

    private static void longest() {
        Bench bench = Nets.path(12);
        for (int v = 0; v < 12; v++) {
            bench.identity(v, 999 - v);
        }
        bench.ready();
        bench.choose(2, 0);
        for (int round = 1; round <= 11; round++) {
            CHECKS.same("longest: round() " + round, bench.round(), 1);
            CHECKS.same("longest: finished() behind " + round, bench.finished(), false);
        }
        CHECKS.same("longest: round() 12", bench.round(), 0);
        CHECKS.same("longest: finished()", bench.finished(), true);
        CHECKS.same("longest: letters()", bench.letters(), 11);
        CHECKS.same("longest: the greatest sum", bench.held(0, 0), 11922);
    }

    private static void mostChildren() {
        Bench bench = Nets.star(12, 11);
        bench.choose(2, 11);
        CHECKS.same("eleven children", bench.held(11, 1), 11);
        CHECKS.same("eleven letters", bench.round(), 11);
        CHECKS.same("no child is left", bench.held(11, 1), 0);
        CHECKS.same("the sum", bench.held(11, 0), 78);
        bench.choose(2, 0);
        CHECKS.slot("of a root at the rim", bench, 1, 1, 0, 0, 0, 0, 0, 0, 0, 0, 0, 0, 10);
    }

    /** "the one with the least number" of three that are one edge nearer, in any order of edges */
    private static void leastNumberedParent() {
        Bench bench = new Bench();
        bench.net(5);
        Nets.edges(bench, new int[][] {{3, 4, 9}, {3, 0, 9}, {2, 4, 5}, {2, 0, 5}, {1, 4, 1}, {1, 0, 1}});
        bench.ready();
        bench.choose(2, 0);
        CHECKS.slot("children", bench, 1, 3, 1, 0, 0, 0);
        bench.choose(2, 4);
        CHECKS.slot("children from the other end", bench, 1, 0, 1, 0, 0, 3);
    }

    /** Nodes 0 and 1 of a ring of five are as far from 3 as one another. */
    private static void sameDistanceIsNoParent() {
        Bench bench = Nets.ring(5);
        bench.choose(2, 3);
        CHECKS.slot("ring, children", bench, 1, 0, 0, 1, 2, 1);
        CHECKS.round("ring, round 1", bench, 2, new int[][] {{1, 0, 1}, {2, 0, 1}, {5, 0, 0}, {4, 2, 0}, {6, 0, 0}});
        CHECKS.round("ring, round 2", bench, 2, new int[][] {{1, 0, 1}, {2, 0, 1}, {5, 0, 1}, {15, 0, 0}, {6, 0, 1}});
        CHECKS.round("ring, round 3", bench, 0, new int[][] {{1, 0, 1}, {2, 0, 1}, {5, 0, 1}, {15, 0, 1}, {6, 0, 1}});
    }

    private static void single() {
        Bench bench = Nets.single();
        bench.choose(2, 0);
        CHECKS.round("one node", bench, 0, new int[][] {{1, 0, 1}});
        CHECKS.over("one node", bench, 1, 0, new int[][] {{1, 0, 1}});
    }
}

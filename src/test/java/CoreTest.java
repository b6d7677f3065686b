/** Algorithm 6, CORE, by promises 7 and 9 to 12. */
public final class CoreTest {
    private static final Checks CHECKS = new Checks();

    public static void main(String[] args) {
        kiteOfTwo();
        kiteOfThree();
        kiteOfOne();
        ringOfEachK();
        twoNodes();
        elevenNeighbours();
        greatestK();
        longest();
        countsBeforeTheLatestRound();
        single();
        CHECKS.end();
    }

    private static void kiteOfTwo() {
        Bench bench = Nets.kite();
        bench.choose(6, 2);
        CHECKS.round("K = 2, round 1", bench, 0, new int[][] {
            {1, 0, 2}, {1, 0, 3}, {1, 0, 3}, {1, 0, 3}, {1, 0, 2}, {0, 1, 1}});
        int[][] last = {{1, 0, 2}, {1, 0, 3}, {1, 0, 3}, {1, 0, 3}, {0, 2, 1}, {0, 1, 1}};
        CHECKS.round("K = 2, round 2", bench, 1, last);
        CHECKS.over("K = 2", bench, 2, 1, last);
    }

    private static void kiteOfThree() {
        Bench bench = Nets.kite();
        bench.choose(6, 3);
        CHECKS.round("K = 3, round 1", bench, 0, new int[][] {
            {0, 1, 2}, {1, 0, 3}, {1, 0, 3}, {1, 0, 3}, {0, 1, 2}, {0, 1, 1}});
        int[][] last = {{0, 1, 2}, {0, 2, 2}, {0, 2, 2}, {0, 2, 2}, {0, 1, 2}, {0, 1, 1}};
        CHECKS.round("K = 3, round 2", bench, 3, last);
        CHECKS.over("K = 3", bench, 2, 3, last);
    }

    private static void kiteOfOne() {
        Bench bench = Nets.kite();
        bench.choose(6, 1);
        CHECKS.over("K = 1", bench, 0, 0, new int[][] {
            {1, 0, 2}, {1, 0, 3}, {1, 0, 3}, {1, 0, 3}, {1, 0, 2}, {1, 0, 1}});
    }

    /** "fewer than K neighbours": all have two, which is enough for 1 and 2, but not for 3. */
    private static void ringOfEachK() {
        int[][] first = {{1, 0, 2}, {1, 0, 2}, {1, 0, 2}};
        int[][] last = {{0, 1, 2}, {0, 1, 2}, {0, 1, 2}};
        for (int k = 1; k <= 12; k++) {
            Bench bench = Nets.ring(3);
            bench.choose(6, k);
            CHECKS.holds("ring, K = " + k + ", at first", bench, first);
            if (k <= 2) {
                CHECKS.over("ring, K = " + k, bench, 0, 0, first);
            } else {
                CHECKS.round("ring, K = " + k, bench, 0, last);
                CHECKS.over("ring, K = " + k, bench, 1, 0, last);
            }
        }
    }

    private static void twoNodes() {
        Bench bench = Nets.path(2);
        bench.choose(6, 1);
        CHECKS.over("two, K = 1", bench, 0, 0, new int[][] {{1, 0, 1}, {1, 0, 1}});
        bench.choose(6, 2);
        CHECKS.round("two, K = 2", bench, 0, new int[][] {{0, 1, 1}, {0, 1, 1}});
        CHECKS.over("two, K = 2", bench, 1, 0, new int[][] {{0, 1, 1}, {0, 1, 1}});
    }

    /** The middle of twelve has eleven, enough for 11, and loses them all at once. */
    private static void elevenNeighbours() {
        Bench bench = Nets.star(12, 11);
        bench.choose(6, 11);
        CHECKS.same("star, K = 11: round() 1", bench.round(), 0);
        CHECKS.slot("star, K = 11, behind 1", bench, 0, 0, 0, 0, 0, 0, 0, 0, 0, 0, 0, 0, 1);
        CHECKS.same("star, K = 11: its neighbours before round 1", bench.held(11, 2), 11);
        CHECKS.same("star, K = 11: finished() behind 1", bench.finished(), false);
        CHECKS.same("star, K = 11: round() 2", bench.round(), 11);
        CHECKS.same("star, K = 11: held(11, 0)", bench.held(11, 0), 0);
        CHECKS.same("star, K = 11: held(11, 1)", bench.held(11, 1), 2);
        CHECKS.same("star, K = 11: held(11, 2)", bench.held(11, 2), 0);
        CHECKS.same("star, K = 11: finished() behind 2", bench.finished(), true);
    }

    private static void greatestK() {
        Bench bench = Nets.star(12, 11);
        bench.choose(6, 12);
        CHECKS.same("star, K = 12: round()", bench.round(), 0);
        CHECKS.slot("star, K = 12", bench, 0, 0, 0, 0, 0, 0, 0, 0, 0, 0, 0, 0, 0);
        CHECKS.slot("star, K = 12", bench, 1, 1, 1, 1, 1, 1, 1, 1, 1, 1, 1, 1, 1);
        CHECKS.slot("star, K = 12", bench, 2, 1, 1, 1, 1, 1, 1, 1, 1, 1, 1, 1, 11);
        CHECKS.same("star, K = 12: finished()", bench.finished(), true);
    }

    private static void longest() {
        Bench bench = Nets.path(12);
        bench.choose(6, 2);
        int[] letters = {0, 2, 2, 2, 2, 2};
        for (int round = 1; round <= 6; round++) {
            CHECKS.same("longest: finished() before " + round, bench.finished(), false);
            CHECKS.same("longest: round() " + round, bench.round(), letters[round - 1]);
        }
        CHECKS.same("longest: finished()", bench.finished(), true);
        CHECKS.slot("longest", bench, 1, 1, 2, 3, 4, 5, 6, 6, 5, 4, 3, 2, 1);
        CHECKS.slot("longest", bench, 2, 1, 1, 1, 1, 1, 1, 1, 1, 1, 1, 1, 1);
    }

    /**
     * A triangle 0, 1, 2 with a tail 2 - 3 - 4, K = 2: what node 2 has lost in round 2 is not yet
     * seen in its slot 2 when the run is finished behind that round.
     */
    private static void countsBeforeTheLatestRound() {
        Bench bench = new Bench();
        bench.net(5);
        Nets.edges(bench, new int[][] {{0, 1, 1}, {1, 2, 1}, {2, 0, 1}, {2, 3, 1}, {3, 4, 1}});
        bench.ready();
        bench.choose(6, 2);
        CHECKS.round("tail, round 1", bench, 0, new int[][] {{1, 0, 2}, {1, 0, 2}, {1, 0, 3}, {1, 0, 2}, {0, 1, 1}});
        int[][] last = {{1, 0, 2}, {1, 0, 2}, {1, 0, 3}, {0, 2, 1}, {0, 1, 1}};
        CHECKS.round("tail, round 2", bench, 1, last);
        CHECKS.over("tail", bench, 2, 1, last);
    }

    private static void single() {
        Bench bench = Nets.single();
        bench.choose(6, 1);
        CHECKS.round("one node", bench, 0, new int[][] {{0, 1, 0}});
        CHECKS.over("one node", bench, 1, 0, new int[][] {{0, 1, 0}});
    }
}

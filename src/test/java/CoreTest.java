/** Algorithm 6, CORE, by promises 7 and 9 to 12. */
public final class CoreTest {
    private static final Checks CHECKS = new Checks();

    public static void main(String[] args) {
        kiteOfTwo();
        kiteOfThree();
        kiteOfOne();
        single();
        CHECKS.end();
    }

    private static void kiteOfTwo() {
        Bench bench = Nets.kite();
        bench.choose(6, 2);
        CHECKS.round("K = 2, round 1", bench, 0, new int[][] {
            {1, 0, 2}, {1, 0, 3}, {1, 0, 3}, {1, 0, 3}, {1, 0, 2}, {0, 1, 1}});
        int[][] last = {{1, 0, 2}, {1, 0, 3}, {1, 0, 3}, {1, 0, 3}, {0, 2, 1}, {0, 1, 1}};
        CHECKS.round("K = 2, round 2", bench, 1, last);
        CHECKS.over("K = 2", bench, 2, 1, last);
    }

    private static void kiteOfThree() {
        Bench bench = Nets.kite();
        bench.choose(6, 3);
        CHECKS.round("K = 3, round 1", bench, 0, new int[][] {
            {0, 1, 2}, {1, 0, 3}, {1, 0, 3}, {1, 0, 3}, {0, 1, 2}, {0, 1, 1}});
        int[][] last = {{0, 1, 2}, {0, 2, 2}, {0, 2, 2}, {0, 2, 2}, {0, 1, 2}, {0, 1, 1}};
        CHECKS.round("K = 3, round 2", bench, 3, last);
        CHECKS.over("K = 3", bench, 2, 3, last);
    }

    private static void kiteOfOne() {
        Bench bench = Nets.kite();
        bench.choose(6, 1);
        CHECKS.over("K = 1", bench, 0, 0, new int[][] {
            {1, 0, 2}, {1, 0, 3}, {1, 0, 3}, {1, 0, 3}, {1, 0, 2}, {1, 0, 1}});
    }

    private static void single() {
        Bench bench = Nets.single();
        bench.choose(6, 1);
        CHECKS.round("one node", bench, 0, new int[][] {{0, 1, 0}});
        CHECKS.over("one node", bench, 1, 0, new int[][] {{0, 1, 0}});
    }
}

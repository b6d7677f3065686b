/** Algorithm 1, WAYS, by promises 7 and 9 to 12. */
public final class WaysTest {
    private static final Checks CHECKS = new Checks();

    public static void main(String[] args) {
        kite();
        single();
        CHECKS.end();
    }

    private static void kite() {
        Bench bench = Nets.kite();
        bench.choose(1, 0);
        CHECKS.round("round 1", bench, 2, new int[][] {
            {0, -1, 0}, {4, 0, 1}, {1, 0, 1}, {-1, -1, 0}, {-1, -1, 0}, {-1, -1, 0}});
        CHECKS.round("round 2", bench, 6, new int[][] {
            {0, -1, 0}, {3, 2, 2}, {1, 0, 1}, {9, 1, 2}, {-1, -1, 0}, {-1, -1, 0}});
        CHECKS.round("round 3", bench, 6, new int[][] {
            {0, -1, 0}, {3, 2, 2}, {1, 0, 1}, {8, 1, 3}, {12, 3, 3}, {-1, -1, 0}});
        CHECKS.round("round 4", bench, 5, new int[][] {
            {0, -1, 0}, {3, 2, 2}, {1, 0, 1}, {8, 1, 3}, {11, 3, 4}, {15, 4, 4}});
        int[][] last = {{0, -1, 0}, {3, 2, 2}, {1, 0, 1}, {8, 1, 3}, {11, 3, 4}, {14, 4, 5}};
        CHECKS.round("round 5", bench, 3, last);
        CHECKS.round("round 6", bench, 1, last);
        CHECKS.over("kite", bench, 6, 23, last);
    }

    private static void single() {
        Bench bench = Nets.single();
        bench.choose(1, 0);
        CHECKS.over("one node", bench, 0, 0, new int[][] {{0, -1, 0}});
    }
}

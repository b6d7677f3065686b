/** Algorithm 7, SIDES, by promises 7 and 9 to 12. */
public final class SidesTest {
    private static final Checks CHECKS = new Checks();

    public static void main(String[] args) {
        kite();
        evenRing();
        single();
        CHECKS.end();
    }

    private static void kite() {
        Bench bench = Nets.kite();
        bench.choose(7, 0);
        CHECKS.round("round 1", bench, 2, new int[][] {
            {0, 0, 0}, {1, 0, 1}, {1, 0, 1}, {-1, 0, 0}, {-1, 0, 0}, {-1, 0, 0}});
        CHECKS.round("round 2", bench, 6, new int[][] {
            {0, 0, 0}, {1, 1, 1}, {1, 1, 1}, {0, 0, 2}, {-1, 0, 0}, {-1, 0, 0}});
        CHECKS.round("round 3", bench, 3, new int[][] {
            {0, 0, 0}, {1, 1, 1}, {1, 1, 1}, {0, 0, 2}, {1, 0, 3}, {-1, 0, 0}});
        int[][] last = {{0, 0, 0}, {1, 1, 1}, {1, 1, 1}, {0, 0, 2}, {1, 0, 3}, {0, 0, 4}};
        CHECKS.round("round 4", bench, 2, last);
        CHECKS.round("round 5", bench, 1, last);
        CHECKS.over("kite", bench, 5, 14, last);
    }

    private static void evenRing() {
        Bench bench = Nets.path(4);
        bench.edge(3, 0, 1);
        bench.ready();
        bench.choose(7, 1);
        CHECKS.same("ring: run(50)", bench.run(50), 3);
        CHECKS.over("ring", bench, 3, 8, new int[][] {{1, 0, 1}, {0, 0, 0}, {1, 0, 1}, {0, 0, 2}});
    }

    private static void single() {
        Bench bench = Nets.single();
        bench.choose(7, 0);
        CHECKS.over("one node", bench, 0, 0, new int[][] {{0, 0, 0}});
    }
}

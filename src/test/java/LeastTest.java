/** Algorithm 0, LEAST, by promises 7 and 9 to 12. */
public final class LeastTest {
    private static final Checks CHECKS = new Checks();

    public static void main(String[] args) {
        kite();
        farAway();
        single();
        CHECKS.end();
    }

    private static void kite() {
        Bench bench = Nets.kite();
        bench.choose(0, 0);
        CHECKS.round("round 1", bench, 14, new int[][] {
            {20, 1, 1}, {10, 1, 3}, {10, 1, 3}, {10, 0, -1}, {10, 1, 3}, {40, 0, -1}});
        int[][] last = {{10, 2, 1}, {10, 1, 3}, {10, 1, 3}, {10, 0, -1}, {10, 1, 3}, {10, 2, 4}};
        CHECKS.round("round 2", bench, 10, last);
        CHECKS.round("round 3", bench, 3, last);
        CHECKS.over("kite", bench, 3, 27, last);
    }

    private static void farAway() {
        Bench bench = Nets.path(12);
        bench.choose(0, 0);
        CHECKS.same("path: run(50)", bench.run(50), 12);
        CHECKS.same("path: letters()", bench.letters(), 22 + 2 * (10 + 9 + 8 + 7 + 6 + 5 + 4 + 3 + 2 + 1) + 11);
        CHECKS.same("path: how far", bench.held(11, 1), 11);
        CHECKS.same("path: by whom", bench.held(11, 2), 10);
    }

    private static void single() {
        Bench bench = Nets.single();
        bench.choose(0, 0);
        CHECKS.over("one node", bench, 0, 0, new int[][] {{1, 0, -1}});
    }
}

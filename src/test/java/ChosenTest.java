/** Algorithm 4, CHOSEN, by promises 7 and 9 to 12. */
public final class ChosenTest {
    private static final Checks CHECKS = new Checks();

    public static void main(String[] args) {
        kite();
        fallingPath();
        single();
        CHECKS.end();
    }

    private static void kite() {
        Bench bench = Nets.kite();
        bench.choose(4, 0);
        int[][] last = {{2, 1, -1}, {2, 1, -1}, {1, 1, -1}, {2, 1, -1}, {1, 1, -1}, {2, 1, -1}};
        CHECKS.round("round 1", bench, 14, last);
        CHECKS.over("kite", bench, 1, 14, last);
    }

    private static void fallingPath() {
        Bench bench = Nets.path(5);
        Nets.identities(bench, 5, 4, 3, 2, 1);
        bench.ready();
        bench.choose(4, 0);
        CHECKS.round("path, round 1", bench, 8, new int[][] {
            {1, 1, -1}, {2, 1, -1}, {0, 0, -1}, {0, 0, -1}, {0, 0, -1}});
        CHECKS.round("path, round 2", bench, 4, new int[][] {
            {1, 1, -1}, {2, 1, -1}, {1, 2, -1}, {2, 2, -1}, {0, 0, -1}});
        int[][] last = {{1, 1, -1}, {2, 1, -1}, {1, 2, -1}, {2, 2, -1}, {1, 3, -1}};
        CHECKS.round("path, round 3", bench, 0, last);
        CHECKS.over("path", bench, 3, 12, last);
    }

    private static void single() {
        Bench bench = Nets.single();
        bench.choose(4, 0);
        CHECKS.round("one node", bench, 0, new int[][] {{1, 1, -1}});
        CHECKS.over("one node", bench, 1, 0, new int[][] {{1, 1, -1}});
    }
}

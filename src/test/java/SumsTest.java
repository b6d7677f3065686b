/** Algorithm 2, SUMS, by promises 7 and 9 to 12. */
public final class SumsTest {
    private static final Checks CHECKS = new Checks();

    public static void main(String[] args) {
        kite();
        star();
        single();
        CHECKS.end();
    }

    private static void kite() {
        Bench bench = Nets.kite();
        bench.choose(2, 0);
        CHECKS.round("round 1", bench, 2, new int[][] {
            {120, 1, 0}, {20, 1, 0}, {70, 0, 1}, {10, 1, 0}, {130, 0, 0}, {40, 0, 1}});
        CHECKS.round("round 2", bench, 1, new int[][] {
            {120, 1, 0}, {20, 1, 0}, {70, 0, 1}, {140, 0, 0}, {130, 0, 1}, {40, 0, 1}});
        CHECKS.round("round 3", bench, 1, new int[][] {
            {120, 1, 0}, {160, 0, 0}, {70, 0, 1}, {140, 0, 1}, {130, 0, 1}, {40, 0, 1}});
        CHECKS.round("round 4", bench, 1, new int[][] {
            {280, 0, 0}, {160, 0, 1}, {70, 0, 1}, {140, 0, 1}, {130, 0, 1}, {40, 0, 1}});
        int[][] last = {{280, 0, 1}, {160, 0, 1}, {70, 0, 1}, {140, 0, 1}, {130, 0, 1}, {40, 0, 1}};
        CHECKS.round("round 5", bench, 0, last);
        CHECKS.over("kite", bench, 5, 5, last);
    }

    private static void star() {
        Bench bench = new Bench();
        bench.net(4);
        Nets.edges(bench, new int[][] {{3, 0, 1}, {3, 1, 1}, {3, 2, 1}});
        Nets.identities(bench, 999, 998, 997, 996);
        bench.ready();
        bench.choose(2, 3);
        CHECKS.round("star, round 1", bench, 3, new int[][] {
            {999, 0, 1}, {998, 0, 1}, {997, 0, 1}, {3990, 0, 0}});
        int[][] last = {{999, 0, 1}, {998, 0, 1}, {997, 0, 1}, {3990, 0, 1}};
        CHECKS.round("star, round 2", bench, 0, last);
        CHECKS.over("star", bench, 2, 3, last);
    }

    private static void single() {
        Bench bench = Nets.single();
        bench.choose(2, 0);
        CHECKS.round("one node", bench, 0, new int[][] {{1, 0, 1}});
        CHECKS.over("one node", bench, 1, 0, new int[][] {{1, 0, 1}});
    }
}

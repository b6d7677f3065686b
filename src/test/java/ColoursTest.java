/** Algorithm 3, COLOURS, by promises 7 and 9 to 12. */
public final class ColoursTest {
    private static final Checks CHECKS = new Checks();

    public static void main(String[] args) {
        kite();
        highPlaces();
        single();
        CHECKS.end();
    }

    private static int[][] colours(int... slotZero) {
        int[][] rows = new int[slotZero.length][];
        for (int v = 0; v < slotZero.length; v++) {
            rows[v] = new int[] {slotZero[v], -1, -1};
        }
        return rows;
    }

    private static void kite() {
        Bench bench = Nets.kite();
        bench.choose(3, 0);
        CHECKS.round("round 1", bench, 5, colours(0, 2, 5, 3, 9, 2));
        CHECKS.round("round 2", bench, 5, colours(0, 3, 1, 1, 2, 0));
        CHECKS.round("round 3", bench, 5, colours(0, 1, 1, 2, 0, 2));
        CHECKS.round("round 4", bench, 5, colours(0, 1, 1, 0, 2, 3));
        CHECKS.over("kite", bench, 4, 20, colours(0, 1, 1, 0, 2, 3));
    }

    private static void highPlaces() {
        Bench bench = new Bench();
        bench.net(3);
        Nets.edges(bench, new int[][] {{0, 1, 1}, {1, 2, 1}});
        Nets.identities(bench, 1, 513, 257);
        bench.ready();
        bench.choose(3, 0);
        CHECKS.round("places 9 and 8", bench, 2, colours(1, 19, 17));
    }

    private static void single() {
        Bench bench = Nets.single();
        bench.identity(0, 998);
        bench.ready();
        bench.choose(3, 0);
        for (int round = 1; round <= 4; round++) {
            CHECKS.round("one node", bench, 0, colours(0));
        }
        CHECKS.over("one node", bench, 4, 0, colours(0));
    }
}

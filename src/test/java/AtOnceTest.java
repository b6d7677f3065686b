/**
 * "In a ROUND all nodes send letters, by what they held before the round, and then all change what
 * they hold, at once.": nothing goes farther than one edge in a round, be it to greater or to
 * lesser numbers.
 */
public final class AtOnceTest {
    private static final Checks CHECKS = new Checks();

    public static void main(String[] args) {
        least();
        ways();
        sums();
        colours();
        chosen();
        pairs();
        core();
        sides();
        CHECKS.end();
    }

    private static Bench path(int... ids) {
        Bench bench = Nets.path(ids.length);
        Nets.identities(bench, ids);
        bench.ready();
        return bench;
    }

    private static void oneRound(String what, Bench bench, int algorithm, int root, int... slotZero) {
        bench.choose(algorithm, root);
        bench.round();
        CHECKS.slot(what, bench, 0, slotZero);
    }

    private static void least() {
        oneRound("LEAST upwards", path(1, 2, 3, 4), 0, 0, 1, 1, 2, 3);
        oneRound("LEAST downwards", path(4, 3, 2, 1), 0, 0, 3, 2, 1, 1);
    }

    private static void ways() {
        oneRound("WAYS upwards", Nets.path(4), 1, 0, 0, 7, -1, -1);
        oneRound("WAYS downwards", Nets.path(4), 1, 3, -1, -1, 7, 0);
    }

    private static void sums() {
        oneRound("SUMS upwards", path(1, 2, 4, 8), 2, 3, 1, 3, 4, 8);
        oneRound("SUMS downwards", path(1, 2, 4, 8), 2, 0, 1, 2, 12, 8);
    }

    /** Beside the colour that its parent gets in this very round, 0, the 4 would become 5. */
    private static void colours() {
        oneRound("COLOURS upwards", path(1, 2, 4, 8), 3, 0, 1, 0, 2, 4);
        oneRound("COLOURS downwards", path(8, 4, 2, 1), 3, 3, 4, 2, 0, 1);
    }

    /** The third node has no neighbour with 0 any more but by this round. */
    private static void chosen() {
        oneRound("CHOSEN upwards", path(4, 3, 2, 1), 4, 0, 1, 2, 0, 0);
        oneRound("CHOSEN downwards", path(1, 2, 3, 4), 4, 0, 0, 0, 2, 1);
    }

    private static void pairs() {
        oneRound("PAIRS upwards", Nets.path(4), 5, 0, 1, 0, -1, -1);
        Bench bench = new Bench();
        bench.net(4);
        Nets.edges(bench, new int[][] {{2, 3, 7}, {1, 2, 7}, {0, 1, 7}});
        bench.ready();
        oneRound("PAIRS downwards", bench, 5, 0, -1, -1, 3, 2);
    }

    private static void core() {
        oneRound("CORE from both ends", Nets.path(5), 6, 2, 0, 1, 1, 1, 0);
    }

    private static void sides() {
        oneRound("SIDES upwards", Nets.path(4), 7, 0, 0, 1, -1, -1);
        oneRound("SIDES downwards", Nets.path(4), 7, 3, -1, -1, 1, 0);
    }
}

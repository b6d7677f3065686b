/** A net of one node, by promises 6 to 12 and with each of the algorithms. */
public final class OneNodeTest {
    private static final Checks CHECKS = new Checks();

    /**
     * By algorithm: the rounds until it is finished. With nobody to send to, LEAST, WAYS and SIDES
     * are finished at once, and so is PAIRS with nobody to pair; the root of SUMS gets its 1, the
     * node of CHOSEN is chosen and that of CORE gets 0 in a round; COLOURS has four in any net.
     */
    private static final int[] ROUNDS = {0, 0, 1, 4, 1, 0, 1, 0};
    private static final int[][] FIRST = {
        {1, 0, -1}, {0, -1, 0}, {1, 0, 0}, {1, -1, -1}, {0, 0, -1}, {-1, 0, -1}, {1, 0, 0}, {0, 0, 0}};
    private static final int[][] LAST = {
        {1, 0, -1}, {0, -1, 0}, {1, 0, 1}, {1, -1, -1}, {1, 1, -1}, {-1, 0, -1}, {0, 1, 0}, {0, 0, 0}};

    public static void main(String[] args) {
        chooseOfARoot();
        chooseOfK();
        chooseOfNoMatter();
        for (int algorithm = 0; algorithm < 8; algorithm++) {
            heldAtFirst(algorithm);
            rounds(algorithm);
            runs(algorithm);
            runBelowZero(algorithm);
            heldNodesAndSlots(algorithm);
            againAndAgain(algorithm);
            ofALargerNet(algorithm);
            otherIdentity(algorithm);
        }
        coloursOfIdentities();
        coreOfEachK();
        CHECKS.end();
    }

    private static Bench chosen(int algorithm) {
        Bench bench = Nets.single();
        bench.choose(algorithm, root(algorithm));
        return bench;
    }

    private static int root(int algorithm) {
        return algorithm == 6 ? 1 : 0;
    }

    private static void chooseOfARoot() {
        for (int algorithm : new int[] {1, 2, 3, 7}) {
            Bench bench = Nets.single();
            CHECKS.same("one node: choose(" + algorithm + ", -1)", bench.choose(algorithm, -1), false);
            CHECKS.same("one node: choose(" + algorithm + ", 1)", bench.choose(algorithm, 1), false);
            CHECKS.same("one node: choose(" + algorithm + ", 11)", bench.choose(algorithm, 11), false);
            CHECKS.nothingChosen("one node, no such root", bench);
            CHECKS.same("one node: choose(" + algorithm + ", 0)", bench.choose(algorithm, 0), true);
        }
    }

    private static void chooseOfK() {
        Bench bench = Nets.single();
        CHECKS.same("one node: choose(6, 0)", bench.choose(6, 0), false);
        CHECKS.same("one node: choose(6, 13)", bench.choose(6, 13), false);
        CHECKS.nothingChosen("one node, no such K", bench);
        CHECKS.same("one node: choose(6, 1)", bench.choose(6, 1), true);
        CHECKS.same("one node: choose(6, 12)", bench.choose(6, 12), true);
    }

    private static void chooseOfNoMatter() {
        for (int algorithm : new int[] {0, 4, 5}) {
            for (int root : new int[] {Integer.MIN_VALUE, -1, 0, 1, Integer.MAX_VALUE}) {
                Bench bench = Nets.single();
                String what = "one node: choose(" + algorithm + ", " + root + ")";
                CHECKS.same(what, bench.choose(algorithm, root), true);
                CHECKS.same(what + ": run(50)", bench.run(50), ROUNDS[algorithm]);
            }
        }
    }

    private static void heldAtFirst(int algorithm) {
        Bench bench = chosen(algorithm);
        String what = "one node, " + algorithm + " at first";
        CHECKS.holds(what, bench, new int[][] {FIRST[algorithm]});
        CHECKS.same(what + ": rounds()", bench.rounds(), 0);
        CHECKS.same(what + ": letters()", bench.letters(), 0);
        CHECKS.same(what + ": finished()", bench.finished(), ROUNDS[algorithm] == 0);
    }

    private static void rounds(int algorithm) {
        Bench bench = chosen(algorithm);
        for (int round = 1; round <= ROUNDS[algorithm]; round++) {
            CHECKS.round("one node, " + algorithm, bench, 0, new int[][] {LAST[algorithm]});
        }
        CHECKS.over("one node, " + algorithm, bench, ROUNDS[algorithm], 0, new int[][] {LAST[algorithm]});
    }

    /** run(limit) with limits from 0 to one more than the run takes, and the greatest. */
    private static void runs(int algorithm) {
        for (int limit = 0; limit <= ROUNDS[algorithm] + 1; limit++) {
            Bench bench = chosen(algorithm);
            String what = "one node, " + algorithm + ": run(" + limit + ")";
            CHECKS.same(what, bench.run(limit), Math.min(limit, ROUNDS[algorithm]));
            CHECKS.same(what + ", rounds()", bench.rounds(), Math.min(limit, ROUNDS[algorithm]));
            CHECKS.same(what + ", letters()", bench.letters(), 0);
            CHECKS.same(what + ", finished()", bench.finished(), limit >= ROUNDS[algorithm]);
        }
        Bench bench = chosen(algorithm);
        CHECKS.same("one node, " + algorithm + ": run(greatest)", bench.run(Integer.MAX_VALUE), ROUNDS[algorithm]);
        CHECKS.over("one node, " + algorithm, bench, ROUNDS[algorithm], 0, new int[][] {LAST[algorithm]});
    }

    private static void runBelowZero(int algorithm) {
        Bench bench = chosen(algorithm);
        CHECKS.same("one node, " + algorithm + ": run(-1)", bench.run(-1), -1);
        CHECKS.same("one node, " + algorithm + ": run(least)", bench.run(Integer.MIN_VALUE), -1);
        CHECKS.same("one node, " + algorithm + ": rounds() then", bench.rounds(), 0);
        CHECKS.holds("one node, " + algorithm + " then", bench, new int[][] {FIRST[algorithm]});
    }

    private static void heldNodesAndSlots(int algorithm) {
        Bench bench = chosen(algorithm);
        for (int v = -1; v <= 12; v++) {
            for (int slot = -1; slot <= 3; slot++) {
                boolean there = v == 0 && slot >= 0 && slot <= 2;
                CHECKS.same("one node, " + algorithm + ": held(" + v + ", " + slot + ")",
                    bench.held(v, slot), there ? FIRST[algorithm][slot] : -2);
            }
        }
    }

    private static void againAndAgain(int algorithm) {
        Bench bench = Nets.single();
        for (int other = 0; other < 8; other++) {
            bench.choose(other, root(other));
            bench.run(50);
            bench.choose(algorithm, root(algorithm));
            CHECKS.holds("one node, " + algorithm + " behind " + other, bench, new int[][] {FIRST[algorithm]});
            CHECKS.same("one node, " + algorithm + " behind " + other, bench.run(50), ROUNDS[algorithm]);
        }
    }

    /** One node that is left when a larger net is gone. */
    private static void ofALargerNet(int algorithm) {
        Bench bench = Row.chosen(algorithm);
        bench.run(50);
        bench.net(1);
        bench.ready();
        bench.choose(algorithm, root(algorithm));
        String what = "one node of five, " + algorithm;
        CHECKS.holds(what, bench, new int[][] {FIRST[algorithm]});
        CHECKS.same(what + ": run(50)", bench.run(50), ROUNDS[algorithm]);
        CHECKS.over(what, bench, ROUNDS[algorithm], 0, new int[][] {LAST[algorithm]});
    }

    /** The identity is seen in LEAST, SUMS and COLOURS alone. */
    private static void otherIdentity(int algorithm) {
        Bench bench = new Bench();
        bench.identity(0, 999);
        bench.ready();
        bench.choose(algorithm, root(algorithm));
        boolean seen = algorithm == 0 || algorithm == 2 || algorithm == 3;
        String what = "one node with 999, " + algorithm;
        CHECKS.same(what + ": held(0, 0)", bench.held(0, 0), seen ? 999 : FIRST[algorithm][0]);
        CHECKS.same(what + ": run(50)", bench.run(50), ROUNDS[algorithm]);
        CHECKS.same(what + ": held(0, 0) at the end", bench.held(0, 0),
            algorithm == 0 || algorithm == 2 ? 999 : LAST[algorithm][0]);
    }

    /** "at the root k is 0": it keeps its lowest bit. */
    private static void coloursOfIdentities() {
        for (int id : new int[] {1, 2, 3, 512, 998, 999}) {
            Bench bench = new Bench();
            bench.identity(0, id);
            bench.ready();
            bench.choose(3, 0);
            for (int round = 1; round <= 4; round++) {
                CHECKS.round("one node with " + id, bench, 0, new int[][] {{id % 2, -1, -1}});
            }
        }
    }

    /** No neighbour is fewer than each K. */
    private static void coreOfEachK() {
        for (int k = 1; k <= 12; k++) {
            Bench bench = Nets.single();
            bench.choose(6, k);
            CHECKS.round("one node, K = " + k, bench, 0, new int[][] {{0, 1, 0}});
            CHECKS.over("one node, K = " + k, bench, 1, 0, new int[][] {{0, 1, 0}});
        }
    }
}

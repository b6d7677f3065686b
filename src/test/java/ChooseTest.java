/** Promise 6, choose, and what promises 9 to 12 answer right behind it. */
public final class ChooseTest {
    private static final Checks CHECKS = new Checks();

    public static void main(String[] args) {
        notReady();
        noSuchAlgorithm();
        rootsOfANode();
        rootsOfNoMatter();
        numbersK();
        whatIsHeldAtFirst();
        refusedSlots();
        choosingStartsAnew();
        CHECKS.end();
    }

    private static void notReady() {
        RoundBench bench = new RoundBench();
        for (int algorithm = 0; algorithm < 8; algorithm++) {
            CHECKS.same("choose(" + algorithm + ", 0) unready", bench.choose(algorithm, 0), false);
            CHECKS.same("choose(" + algorithm + ", 1) unready", bench.choose(algorithm, 1), false);
        }
        CHECKS.same("rounds() unready", bench.rounds(), -1);
    }

    private static void noSuchAlgorithm() {
        RoundBench bench = Nets.kite();
        CHECKS.same("choose(-1, 1)", bench.choose(-1, 1), false);
        CHECKS.same("choose(8, 1)", bench.choose(8, 1), false);
        CHECKS.same("rounds() behind them", bench.rounds(), -1);
    }

    private static void rootsOfANode() {
        RoundBench bench = Nets.kite();
        for (int algorithm : new int[] {1, 2, 3, 7}) {
            String call = "choose(" + algorithm + ", ";
            CHECKS.same(call + "-1)", bench.choose(algorithm, -1), false);
            CHECKS.same(call + "6)", bench.choose(algorithm, 6), false);
            CHECKS.same(call + "12)", bench.choose(algorithm, 12), false);
            CHECKS.same(call + "0)", bench.choose(algorithm, 0), true);
            CHECKS.same(call + "5)", bench.choose(algorithm, 5), true);
        }
    }

    private static void rootsOfNoMatter() {
        RoundBench bench = Nets.kite();
        for (int algorithm : new int[] {0, 4, 5}) {
            for (int root : new int[] {-1, 0, 6, 13, Integer.MIN_VALUE, Integer.MAX_VALUE}) {
                String call = "choose(" + algorithm + ", " + root + ")";
                CHECKS.same(call, bench.choose(algorithm, root), true);
                CHECKS.same(call + ": run(50) ends", bench.run(50) > 0, true);
            }
        }
    }

    private static void numbersK() {
        RoundBench bench = Nets.kite();
        CHECKS.same("choose(6, 0)", bench.choose(6, 0), false);
        CHECKS.same("choose(6, 13)", bench.choose(6, 13), false);
        CHECKS.same("choose(6, -1)", bench.choose(6, -1), false);
        CHECKS.same("choose(6, 1)", bench.choose(6, 1), true);
        CHECKS.same("choose(6, 12), more than there are nodes", bench.choose(6, 12), true);
    }

    private static void whatIsHeldAtFirst() {
        RoundBench bench = Nets.kite();
        int[][][] due = {
            {{50, 0, -1}, {20, 0, -1}, {70, 0, -1}, {10, 0, -1}, {90, 0, -1}, {40, 0, -1}},
            {{-1, -1, 0}, {0, -1, 0}, {-1, -1, 0}, {-1, -1, 0}, {-1, -1, 0}, {-1, -1, 0}},
            {{50, 0, 0}, {20, 3, 0}, {70, 0, 0}, {10, 1, 0}, {90, 1, 0}, {40, 0, 0}},
            {{50, -1, -1}, {20, -1, -1}, {70, -1, -1}, {10, -1, -1}, {90, -1, -1}, {40, -1, -1}},
            {{0, 0, -1}, {0, 0, -1}, {0, 0, -1}, {0, 0, -1}, {0, 0, -1}, {0, 0, -1}},
            {{-1, 0, -1}, {-1, 0, -1}, {-1, 0, -1}, {-1, 0, -1}, {-1, 0, -1}, {-1, 0, -1}},
            {{1, 0, 2}, {1, 0, 3}, {1, 0, 3}, {1, 0, 3}, {1, 0, 2}, {1, 0, 1}},
            {{-1, 0, 0}, {0, 0, 0}, {-1, 0, 0}, {-1, 0, 0}, {-1, 0, 0}, {-1, 0, 0}},
        };
        for (int algorithm = 0; algorithm < 8; algorithm++) {
            CHECKS.same("choose(" + algorithm + ", 1)", bench.choose(algorithm, 1), true);
            CHECKS.holds("algorithm " + algorithm + " at first", bench, due[algorithm]);
            CHECKS.same("rounds() at first", bench.rounds(), 0);
            CHECKS.same("letters() at first", bench.letters(), 0);
            // Of K = 1 nobody of a connected net would ever get 0.
            CHECKS.same("finished() at first", bench.finished(), algorithm == 6);
        }
    }

    private static void refusedSlots() {
        RoundBench bench = Nets.kite();
        for (int algorithm = 0; algorithm < 8; algorithm++) {
            bench.choose(algorithm, 1);
            CHECKS.same(algorithm + ": held(-1, 0)", bench.held(-1, 0), -2);
            CHECKS.same(algorithm + ": held(6, 0)", bench.held(6, 0), -2);
            CHECKS.same(algorithm + ": held(0, -1)", bench.held(0, -1), -2);
            CHECKS.same(algorithm + ": held(0, 3)", bench.held(0, 3), -2);
        }
    }

    private static void choosingStartsAnew() {
        RoundBench bench = Nets.kite();
        for (int algorithm = 0; algorithm < 8; algorithm++) {
            bench.choose(algorithm, 2);
            int rounds = bench.run(50);
            int letters = bench.letters();
            for (int other = 0; other < 8; other++) {
                bench.choose(other, 3);
                bench.run(2);
                bench.choose(algorithm, 2);
                CHECKS.same(algorithm + " behind " + other + ": rounds()", bench.rounds(), 0);
                CHECKS.same(algorithm + " behind " + other + ": letters()", bench.letters(), 0);
                CHECKS.same(algorithm + " behind " + other + ": run(50)", bench.run(50), rounds);
                CHECKS.same(algorithm + " behind " + other + ": letters()", bench.letters(), letters);
            }
        }
    }
}

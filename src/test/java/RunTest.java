/** Promise 8, run, with promises 9 to 12 behind it, for each of the algorithms. */
public final class RunTest {
    private static final Checks CHECKS = new Checks();

    // Of the kite and root (or K) 2.
    private static final int[] ROUNDS = {3, 5, 4, 4, 1, 2, 2, 4};

    public static void main(String[] args) {
        for (int algorithm = 0; algorithm < 8; algorithm++) {
            wholeRun(algorithm);
            inPieces(algorithm);
            sameAsRounds(algorithm);
        }
        nothingChosen();
        CHECKS.end();
    }

    private static RoundBench chosen(int algorithm) {
        RoundBench bench = Nets.kite();
        CHECKS.same("choose(" + algorithm + ", 2)", bench.choose(algorithm, 2), true);
        return bench;
    }

    private static void wholeRun(int algorithm) {
        for (int limit : new int[] {ROUNDS[algorithm], ROUNDS[algorithm] + 1, 50, 5000, Integer.MAX_VALUE}) {
            RoundBench bench = chosen(algorithm);
            String what = algorithm + ": run(" + limit + ")";
            CHECKS.same(what, bench.run(limit), ROUNDS[algorithm]);
            CHECKS.same(what + ", finished()", bench.finished(), true);
            CHECKS.same(what + ", rounds()", bench.rounds(), ROUNDS[algorithm]);
            CHECKS.same(what + ", again", bench.run(limit), 0);
            CHECKS.same(what + ", round()", bench.round(), -1);
            CHECKS.same(what + ", rounds() still", bench.rounds(), ROUNDS[algorithm]);
        }
    }

    private static void inPieces(int algorithm) {
        RoundBench bench = chosen(algorithm);
        CHECKS.same(algorithm + ": run(-1)", bench.run(-1), -1);
        CHECKS.same(algorithm + ": run(least)", bench.run(Integer.MIN_VALUE), -1);
        CHECKS.same(algorithm + ": run(0)", bench.run(0), 0);
        CHECKS.same(algorithm + ": rounds() behind none", bench.rounds(), 0);
        for (int round = 1; round <= ROUNDS[algorithm]; round++) {
            CHECKS.same(algorithm + ": finished() before " + round, bench.finished(), false);
            CHECKS.same(algorithm + ": run(1)", bench.run(1), 1);
            CHECKS.same(algorithm + ": rounds()", bench.rounds(), round);
        }
        CHECKS.same(algorithm + ": finished()", bench.finished(), true);
        CHECKS.same(algorithm + ": run(1) at the end", bench.run(1), 0);
    }

    private static void sameAsRounds(int algorithm) {
        RoundBench slow = chosen(algorithm);
        for (int limit = 0; limit <= ROUNDS[algorithm]; limit++) {
            RoundBench fast = chosen(algorithm);
            CHECKS.same(algorithm + ": run(" + limit + ")", fast.run(limit), limit);
            CHECKS.same(algorithm + ": letters()", fast.letters(), slow.letters());
            for (int v = 0; v < 6; v++) {
                for (int slot = 0; slot < 3; slot++) {
                    CHECKS.same(algorithm + ": held()", fast.held(v, slot), slow.held(v, slot));
                }
            }
            slow.round();
        }
    }

    private static void nothingChosen() {
        RoundBench bench = Nets.kite();
        CHECKS.same("run(5) with nothing chosen", bench.run(5), -1);
        CHECKS.same("run(0) with nothing chosen", bench.run(0), -1);
        CHECKS.same("run(-1) with nothing chosen", bench.run(-1), -1);
    }
}

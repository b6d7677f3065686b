/** Promise 8, run, with each of the algorithms. */
public final class RunTest {
    private static final Checks CHECKS = new Checks();

    public static void main(String[] args) {
        nothingChosen();
        for (int algorithm = 0; algorithm < Row.ALGORITHMS; algorithm++) {
            belowZero(algorithm);
            zero(algorithm);
            one(algorithm);
            oneTooFew(algorithm);
            enough(algorithm);
            finished(algorithm);
            onceMoreInPieces(algorithm);
            sameAsRounds(algorithm);
        }
        longest();
        CHECKS.end();
    }

    private static void nothingChosen() {
        for (int limit : new int[] {Integer.MIN_VALUE, -1, 0, 1, 50, Integer.MAX_VALUE}) {
            CHECKS.same("new: run(" + limit + ")", new Bench().run(limit), -1);
            CHECKS.same("unready: run(" + limit + ")", Row.unready().run(limit), -1);
            CHECKS.same("ready: run(" + limit + ")", Row.ready().run(limit), -1);
        }
    }

    /** "or limit is below 0": at first, in the midst of a run and at its end. */
    private static void belowZero(int algorithm) {
        for (int limit : new int[] {Integer.MIN_VALUE, Integer.MIN_VALUE + 1, -2, -1}) {
            for (int played : new int[] {0, 1, Row.rounds(algorithm)}) {
                Bench bench = Row.chosen(algorithm);
                Bench twin = Row.chosen(algorithm);
                bench.run(played);
                twin.run(played);
                String what = algorithm + " behind " + played + ": run(" + limit + ")";
                CHECKS.same(what, bench.run(limit), -1);
                CHECKS.alike(what, bench, twin, Row.NODES);
            }
        }
    }

    private static void zero(int algorithm) {
        Bench bench = Row.chosen(algorithm);
        CHECKS.same(algorithm + ": run(0)", bench.run(0), 0);
        CHECKS.same(algorithm + ": rounds() behind run(0)", bench.rounds(), 0);
        CHECKS.same(algorithm + ": letters() behind run(0)", bench.letters(), 0);
        CHECKS.same(algorithm + ": finished() behind run(0)", bench.finished(), false);
        CHECKS.holds(algorithm + " behind run(0)", bench, Row.FIRST[algorithm]);
    }

    private static void one(int algorithm) {
        Bench bench = Row.chosen(algorithm);
        CHECKS.same(algorithm + ": run(1)", bench.run(1), 1);
        CHECKS.same(algorithm + ": rounds() behind run(1)", bench.rounds(), 1);
        CHECKS.same(algorithm + ": letters() behind run(1)", bench.letters(), Row.LETTERS[algorithm][0]);
        CHECKS.holds(algorithm + " behind run(1)", bench, Row.SECOND[algorithm]);
    }

    private static void oneTooFew(int algorithm) {
        int limit = Row.rounds(algorithm) - 1;
        Bench bench = Row.chosen(algorithm);
        CHECKS.same(algorithm + ": run(" + limit + ")", bench.run(limit), limit);
        CHECKS.same(algorithm + ": finished() one too early", bench.finished(), false);
        CHECKS.same(algorithm + ": run(50) behind it", bench.run(50), 1);
        CHECKS.same(algorithm + ": finished() then", bench.finished(), true);
    }

    /** "Rounds until the run is finished": just as many as it takes, one more, and far more. */
    private static void enough(int algorithm) {
        int rounds = Row.rounds(algorithm);
        for (int limit : new int[] {rounds, rounds + 1, 999, 1000, 1001, 1_000_000, 1_000_001,
            Integer.MAX_VALUE - 1, Integer.MAX_VALUE}) {
            Bench bench = Row.chosen(algorithm);
            String what = algorithm + ": run(" + limit + ")";
            CHECKS.same(what, bench.run(limit), rounds);
            CHECKS.over(what, bench, rounds, Row.letters(algorithm, rounds), Row.LAST[algorithm]);
        }
    }

    /** Of a run that is finished already there are no rounds more: 0, not NONE. */
    private static void finished(int algorithm) {
        Bench bench = Row.chosen(algorithm);
        bench.run(50);
        for (int limit : new int[] {0, 1, 2, 50, Integer.MAX_VALUE}) {
            CHECKS.same(algorithm + ", finished: run(" + limit + ")", bench.run(limit), 0);
        }
        CHECKS.same(algorithm + ", finished: rounds()", bench.rounds(), Row.rounds(algorithm));
    }

    private static void onceMoreInPieces(int algorithm) {
        Bench bench = Row.chosen(algorithm);
        for (int round = 1; round <= Row.rounds(algorithm); round++) {
            CHECKS.same(algorithm + ": finished() before " + round, bench.finished(), false);
            CHECKS.same(algorithm + ": run(1)", bench.run(1), 1);
            CHECKS.same(algorithm + ": run(0)", bench.run(0), 0);
            CHECKS.same(algorithm + ": rounds()", bench.rounds(), round);
            CHECKS.same(algorithm + ": letters()", bench.letters(), Row.letters(algorithm, round));
        }
        CHECKS.same(algorithm + ": finished()", bench.finished(), true);
        CHECKS.same(algorithm + ": run(1) at the end", bench.run(1), 0);
    }

    private static void sameAsRounds(int algorithm) {
        Bench slow = Row.chosen(algorithm);
        for (int limit = 0; limit <= Row.rounds(algorithm); limit++) {
            Bench fast = Row.chosen(algorithm);
            CHECKS.same(algorithm + ": run(" + limit + ")", fast.run(limit), limit);
            CHECKS.alike(algorithm + ": run(" + limit + ")", fast, slow, Row.NODES);
            slow.round();
        }
    }

    /** The longest runs that twelve nodes can have: twelve rounds, to the other end and back. */
    private static void longest() {
        int[] rounds = {12, 12, 12, 4, 6, 6, 6, 12};
        for (int algorithm = 0; algorithm < Row.ALGORITHMS; algorithm++) {
            for (int limit : new int[] {rounds[algorithm], rounds[algorithm] + 1, Integer.MAX_VALUE}) {
                Bench bench = Nets.path(12);
                for (int v = 0; v < 12; v++) {
                    bench.identity(v, 12 - v);
                }
                bench.ready();
                bench.choose(algorithm, algorithm == 6 ? 2 : 0);
                String what = "twelve in a row, " + algorithm + ": ";
                CHECKS.same(what + "run(" + (rounds[algorithm] - 1) + ")",
                    bench.run(rounds[algorithm] - 1), rounds[algorithm] - 1);
                CHECKS.same(what + "finished() one too early", bench.finished(), false);
                bench.choose(algorithm, algorithm == 6 ? 2 : 0);
                CHECKS.same(what + "run(" + limit + ")", bench.run(limit), rounds[algorithm]);
                CHECKS.same(what + "finished()", bench.finished(), true);
            }
        }
    }
}

/** Promise 9, finished, with each of the algorithms. */
public final class FinishedTest {
    private static final Checks CHECKS = new Checks();

    public static void main(String[] args) {
        nothingChosen();
        for (int algorithm = 0; algorithm < Row.ALGORITHMS; algorithm++) {
            beforeAndBehindTheLastRound(algorithm);
            askingChangesNothing(algorithm);
            behindAChange(algorithm);
        }
        finishedAtOnce();
        CHECKS.end();
    }

    /** "Whether something is chosen": false, and not NONE, when nothing is. */
    private static void nothingChosen() {
        CHECKS.same("new: finished()", new Bench().finished(), false);
        CHECKS.same("unready: finished()", Row.unready().finished(), false);
        CHECKS.same("ready: finished()", Row.ready().finished(), false);
    }

    private static void beforeAndBehindTheLastRound(int algorithm) {
        Bench bench = Row.chosen(algorithm);
        for (int round = 1; round <= Row.rounds(algorithm); round++) {
            CHECKS.same(algorithm + ": finished() before round " + round, bench.finished(), false);
            bench.round();
        }
        CHECKS.same(algorithm + ": finished() behind the last", bench.finished(), true);
        bench.round();
        CHECKS.same(algorithm + ": finished() behind a refused one", bench.finished(), true);
    }

    private static void askingChangesNothing(int algorithm) {
        Bench bench = Row.chosen(algorithm);
        for (int asked = 0; asked < 50; asked++) {
            bench.finished();
        }
        CHECKS.holds(algorithm + " behind finished()", bench, Row.FIRST[algorithm]);
        CHECKS.same(algorithm + " behind finished(): run(50)", bench.run(50), Row.rounds(algorithm));
    }

    private static void behindAChange(int algorithm) {
        Bench bench = Row.chosen(algorithm);
        bench.run(50);
        bench.edge(0, 4, 1);
        CHECKS.same(algorithm + ": finished() behind edge()", bench.finished(), false);
        bench.ready();
        CHECKS.same(algorithm + ": finished() behind edge() and ready()", bench.finished(), false);
    }

    /** Of K = 1 nobody of five in a row gets 0, of K = 2 the ends do. */
    private static void finishedAtOnce() {
        Bench bench = Row.ready();
        bench.choose(6, 1);
        CHECKS.over("K = 1", bench, 0, 0, Row.FIRST[6]);
        bench.choose(6, 2);
        CHECKS.same("K = 2: finished()", bench.finished(), false);
    }
}

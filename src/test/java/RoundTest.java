/** Promise 7, round, with each of the algorithms. */
public final class RoundTest {
    private static final Checks CHECKS = new Checks();

    public static void main(String[] args) {
        nothingChosen();
        for (int algorithm = 0; algorithm < Row.ALGORITHMS; algorithm++) {
            lettersOfEachRound(algorithm);
            heldBehindTheFirst(algorithm);
            finished(algorithm);
            behindRun(algorithm);
            afterAChange(algorithm);
        }
        CHECKS.end();
    }

    /** "NONE when nothing is chosen": new, unready, ready. */
    private static void nothingChosen() {
        CHECKS.same("new: round()", new Bench().round(), -1);
        CHECKS.same("unready: round()", Row.unready().round(), -1);
        Bench bench = Row.ready();
        CHECKS.same("ready: round()", bench.round(), -1);
        CHECKS.same("ready: rounds() behind it", bench.rounds(), -1);
        CHECKS.same("ready: choose(4, 0) behind it", bench.choose(4, 0), true);
        CHECKS.holds("ready: choose() behind it", bench, Row.FIRST[4]);
    }

    /** "Answers how many letters were sent", 0 where none was and the run was not finished. */
    private static void lettersOfEachRound(int algorithm) {
        Bench bench = Row.chosen(algorithm);
        for (int round = 1; round <= Row.rounds(algorithm); round++) {
            CHECKS.same(algorithm + ": round() " + round, bench.round(), Row.LETTERS[algorithm][round - 1]);
            CHECKS.same(algorithm + ": rounds()", bench.rounds(), round);
            CHECKS.same(algorithm + ": letters()", bench.letters(), Row.letters(algorithm, round));
        }
    }

    private static void heldBehindTheFirst(int algorithm) {
        Bench bench = Row.chosen(algorithm);
        CHECKS.round(algorithm + ", round 1", bench, Row.LETTERS[algorithm][0], Row.SECOND[algorithm]);
    }

    /** "or the run is finished": then nothing changes, however often it is asked. */
    private static void finished(int algorithm) {
        Bench bench = Row.chosen(algorithm);
        for (int round = 1; round < Row.rounds(algorithm); round++) {
            bench.round();
        }
        CHECKS.same(algorithm + ": the last round is not refused", bench.round() >= 0, true);
        CHECKS.same(algorithm + ": the one behind it", bench.round(), -1);
        CHECKS.same(algorithm + ": and again", bench.round(), -1);
        CHECKS.over(algorithm + " finished", bench, Row.rounds(algorithm),
            Row.letters(algorithm, Row.rounds(algorithm)), Row.LAST[algorithm]);
    }

    private static void behindRun(int algorithm) {
        Bench bench = Row.chosen(algorithm);
        bench.run(1);
        CHECKS.same(algorithm + ": round() behind run(1)", bench.round(), Row.LETTERS[algorithm][1]);
        CHECKS.same(algorithm + ": rounds() behind both", bench.rounds(), 2);
    }

    /** Nothing is chosen any more behind a change of the net. */
    private static void afterAChange(int algorithm) {
        Bench bench = Row.chosen(algorithm);
        bench.identity(4, 11);
        CHECKS.same(algorithm + ": round() of a changed net", bench.round(), -1);
        bench.ready();
        CHECKS.same(algorithm + ": round() of a changed net that is ready", bench.round(), -1);
    }
}

/** Promises 10 and 11, rounds and letters, with each of the algorithms. */
public final class CountsTest {
    private static final Checks CHECKS = new Checks();

    public static void main(String[] args) {
        nothingChosen();
        for (int algorithm = 0; algorithm < Row.ALGORITHMS; algorithm++) {
            sinceChoose(algorithm);
            refusedRoundsDoNotCount(algorithm);
            fromZeroAgain(algorithm);
            goneWithTheNet(algorithm);
            mostLetters(algorithm);
        }
        CHECKS.end();
    }

    /** "NONE when nothing is chosen": new, unready, ready. */
    private static void nothingChosen() {
        for (Bench bench : new Bench[] {new Bench(), Row.unready(), Row.ready()}) {
            CHECKS.same("nothing chosen: rounds()", bench.rounds(), -1);
            CHECKS.same("nothing chosen: letters()", bench.letters(), -1);
        }
    }

    private static void sinceChoose(int algorithm) {
        Bench bench = Row.chosen(algorithm);
        for (int round = 0; round <= Row.rounds(algorithm); round++) {
            CHECKS.same(algorithm + ": rounds()", bench.rounds(), round);
            CHECKS.same(algorithm + ": letters()", bench.letters(), Row.letters(algorithm, round));
            CHECKS.same(algorithm + ": rounds() again", bench.rounds(), round);
            CHECKS.same(algorithm + ": letters() again", bench.letters(), Row.letters(algorithm, round));
            bench.round();
        }
    }

    private static void refusedRoundsDoNotCount(int algorithm) {
        Bench bench = Row.chosen(algorithm);
        bench.run(-1);
        CHECKS.same(algorithm + ": rounds() behind run(-1)", bench.rounds(), 0);
        bench.run(50);
        bench.round();
        bench.run(5);
        CHECKS.same(algorithm + ": rounds() behind the end", bench.rounds(), Row.rounds(algorithm));
        CHECKS.same(algorithm + ": letters() behind the end", bench.letters(),
            Row.letters(algorithm, Row.rounds(algorithm)));
    }

    private static void fromZeroAgain(int algorithm) {
        Bench bench = Row.chosen(algorithm);
        bench.run(2);
        bench.choose(algorithm, Row.ROOTS[algorithm]);
        CHECKS.same(algorithm + ": rounds() behind choose()", bench.rounds(), 0);
        CHECKS.same(algorithm + ": letters() behind choose()", bench.letters(), 0);
    }

    private static void goneWithTheNet(int algorithm) {
        Bench bench = Row.chosen(algorithm);
        bench.run(2);
        bench.identity(0, 51);
        CHECKS.same(algorithm + ": rounds() behind identity()", bench.rounds(), -1);
        CHECKS.same(algorithm + ": letters() behind identity()", bench.letters(), -1);
        bench.ready();
        CHECKS.same(algorithm + ": rounds() behind ready()", bench.rounds(), -1);
        CHECKS.same(algorithm + ": letters() behind ready()", bench.letters(), -1);
    }

    /**
     * Twelve nodes with 24 edges, the identities and weights of which rise with the numbers, of
     * root 0, which is the neighbour of all others, and K = 4, which three nodes have at first.
     */
    private static void mostLetters(int algorithm) {
        int[][] due = {{48, 37}, {11, 37}, {11, 0}, {11, 11, 11, 11}, {48}, {48, 14}, {0, 21}, {11, 37}};
        Bench bench = Nets.full();
        bench.choose(algorithm, algorithm == 6 ? 4 : 0);
        int sum = 0;
        for (int round = 0; round < due[algorithm].length; round++) {
            CHECKS.same(algorithm + ", 24 edges: round()", bench.round(), due[algorithm][round]);
            sum += due[algorithm][round];
            CHECKS.same(algorithm + ", 24 edges: letters()", bench.letters(), sum);
        }
        CHECKS.same(algorithm + ", 24 edges: finished()", bench.finished(), true);
    }
}

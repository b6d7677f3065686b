/** "An object is used for at most 512 calls after it has been made": up to the last of them. */
public final class CallsTest {
    private static final Checks CHECKS = new Checks();

    public static void main(String[] args) {
        lastCallAnswers();
        netsToTheEnd();
        edgesToTheEnd();
        for (int algorithm = 0; algorithm < Row.ALGORITHMS; algorithm++) {
            runsToTheEnd(algorithm);
            roundsToTheEnd(algorithm);
            refusedToTheEnd(algorithm);
        }
        CHECKS.end();
    }

    /** Each call of the face as the 512th one. */
    private static void lastCallAnswers() {
        CHECKS.same("512th: net(3)", used().net(3), true);
        CHECKS.same("512th: edge(0, 2, 1)", used().edge(0, 2, 1), 4);
        CHECKS.same("512th: identity(0, 7)", used().identity(0, 7), true);
        CHECKS.same("512th: ready()", used().ready(), 0);
        CHECKS.same("512th: choose(7, 4)", used().choose(7, 4), true);
        CHECKS.same("512th: round()", used().round(), 7);
        CHECKS.same("512th: run(50)", used().run(50), 4);
        CHECKS.same("512th: finished()", used().finished(), false);
        CHECKS.same("512th: rounds()", used().rounds(), 1);
        CHECKS.same("512th: letters()", used().letters(), 8);
        CHECKS.same("512th: held(0, 0)", used().held(0, 0), 40);
    }

    /** One round of LEAST, and one call left. */
    private static Bench used() {
        Bench bench = Row.chosen(0);
        bench.round();
        while (bench.callsLeft() > 1) {
            bench.finished();
        }
        return bench;
    }

    private static void netsToTheEnd() {
        Bench bench = new Bench();
        while (bench.callsLeft() > 6) {
            CHECKS.same("net(12)", bench.net(12), true);
            CHECKS.same("edge(0, 11, 5)", bench.edge(0, 11, 5), 0);
        }
        bench.net(2);
        bench.edge(0, 1, 5);
        bench.ready();
        bench.choose(1, 0);
        bench.run(50);
        CHECKS.same("512th: held(1, 0)", bench.held(1, 0), 5);
    }

    private static void edgesToTheEnd() {
        Bench bench = Nets.full();
        while (bench.callsLeft() > 3) {
            CHECKS.same("edge(10, 11, 1) of a full net", bench.edge(10, 11, 1), -1);
        }
        bench.choose(2, 0);
        bench.run(50);
        CHECKS.same("512th: held(0, 0)", bench.held(0, 0), 78);
    }

    /** The dearest calls: whole runs, over and over. */
    private static void runsToTheEnd(int algorithm) {
        int root = algorithm == 6 ? 4 : 11;
        Bench once = Nets.full();
        once.choose(algorithm, root);
        int rounds = once.run(50);
        int letters = once.letters();
        Bench bench = Nets.full();
        while (bench.callsLeft() > 4) {
            CHECKS.same(algorithm + ": choose()", bench.choose(algorithm, root), true);
            CHECKS.same(algorithm + ": run(greatest)", bench.run(Integer.MAX_VALUE), rounds);
        }
        bench.choose(algorithm, root);
        bench.run(50);
        CHECKS.same(algorithm + ", 511th: finished()", bench.finished(), true);
        CHECKS.same(algorithm + ", 512th: letters()", bench.letters(), letters);
        CHECKS.same(algorithm + ": calls left", bench.callsLeft(), 0);
    }

    private static void roundsToTheEnd(int algorithm) {
        Bench bench = Row.ready();
        while (bench.callsLeft() > Row.rounds(algorithm)) {
            bench.choose(algorithm, Row.ROOTS[algorithm]);
            for (int round = 0; round < Row.rounds(algorithm); round++) {
                CHECKS.same(algorithm + ": round()", bench.round(), Row.LETTERS[algorithm][round]);
            }
        }
        while (bench.callsLeft() > 0) {
            CHECKS.same(algorithm + ": round() at the end", bench.round(), -1);
        }
    }

    private static void refusedToTheEnd(int algorithm) {
        Bench bench = Row.chosen(algorithm);
        bench.round();
        while (bench.callsLeft() > 17) {
            bench.choose(8, bench.callsLeft());
        }
        CHECKS.same(algorithm + ", behind refused calls: run(50)", bench.run(50), Row.rounds(algorithm) - 1);
        CHECKS.holds(algorithm + ", to the 512th", bench, Row.LAST[algorithm]);
        CHECKS.same(algorithm + ": calls left", bench.callsLeft(), 0);
    }
}

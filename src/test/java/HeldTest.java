/** Promise 12, held, with each of the algorithms. */
public final class HeldTest {
    private static final Checks CHECKS = new Checks();
    private static final int[] EXTREMES = {Integer.MIN_VALUE, Integer.MIN_VALUE + 1, -256, 256, 65536,
        Integer.MAX_VALUE - 1, Integer.MAX_VALUE};

    public static void main(String[] args) {
        nothingChosen();
        for (int algorithm = 0; algorithm < Row.ALGORITHMS; algorithm++) {
            nodes(algorithm);
            nodesOfTwelve(algorithm);
            slots(algorithm);
            extremes(algorithm);
            nodesOfALargerNet(algorithm);
            askingChangesNothing(algorithm);
            goneWithTheNet(algorithm);
        }
        CHECKS.end();
    }

    /** "-2 when nothing is chosen": for nodes and slots that there are, too. */
    private static void nothingChosen() {
        for (Bench bench : new Bench[] {new Bench(), Row.unready(), Row.ready()}) {
            for (int v = -1; v <= 12; v++) {
                for (int slot = -1; slot <= 3; slot++) {
                    CHECKS.same("nothing chosen: held(" + v + ", " + slot + ")", bench.held(v, slot), -2);
                }
            }
        }
    }

    /** "or there is no such node": -1, 0, N - 1, N, and 11 and 12 beyond them. */
    private static void nodes(int algorithm) {
        Bench bench = Row.chosen(algorithm);
        for (int slot = 0; slot < 3; slot++) {
            for (int v : new int[] {-2, -1, 5, 6, 11, 12, 13}) {
                CHECKS.same(algorithm + ": held(" + v + ", " + slot + ")", bench.held(v, slot), -2);
            }
            for (int v : new int[] {0, 4}) {
                CHECKS.same(algorithm + ": held(" + v + ", " + slot + ")", bench.held(v, slot),
                    Row.FIRST[algorithm][v][slot]);
            }
        }
    }

    private static void nodesOfTwelve(int algorithm) {
        Bench bench = Nets.full();
        bench.choose(algorithm, 1);
        for (int slot = 0; slot < 3; slot++) {
            CHECKS.same(algorithm + ", twelve: held(-1, " + slot + ")", bench.held(-1, slot), -2);
            CHECKS.same(algorithm + ", twelve: held(0, " + slot + ") is there", bench.held(0, slot) != -2, true);
            CHECKS.same(algorithm + ", twelve: held(11, " + slot + ") is there", bench.held(11, slot) != -2, true);
            CHECKS.same(algorithm + ", twelve: held(12, " + slot + ")", bench.held(12, slot), -2);
        }
    }

    /** "or slot": -1, 0, 2, 3. */
    private static void slots(int algorithm) {
        Bench bench = Row.chosen(algorithm);
        for (int v = 0; v < Row.NODES; v++) {
            CHECKS.same(algorithm + ": held(" + v + ", -2)", bench.held(v, -2), -2);
            CHECKS.same(algorithm + ": held(" + v + ", -1)", bench.held(v, -1), -2);
            CHECKS.same(algorithm + ": held(" + v + ", 0)", bench.held(v, 0), Row.FIRST[algorithm][v][0]);
            CHECKS.same(algorithm + ": held(" + v + ", 2)", bench.held(v, 2), Row.FIRST[algorithm][v][2]);
            CHECKS.same(algorithm + ": held(" + v + ", 3)", bench.held(v, 3), -2);
            CHECKS.same(algorithm + ": held(" + v + ", 4)", bench.held(v, 4), -2);
        }
    }

    private static void extremes(int algorithm) {
        Bench bench = Row.chosen(algorithm);
        for (int x : EXTREMES) {
            CHECKS.same(algorithm + ": held(" + x + ", 0)", bench.held(x, 0), -2);
            CHECKS.same(algorithm + ": held(0, " + x + ")", bench.held(0, x), -2);
            CHECKS.same(algorithm + ": held(" + x + ", " + x + ")", bench.held(x, x), -2);
        }
        CHECKS.holds(algorithm + " behind them", bench, Row.FIRST[algorithm]);
    }

    /** What nodes of an earlier net held is not to be had any more. */
    private static void nodesOfALargerNet(int algorithm) {
        Bench bench = Row.chosen(algorithm);
        bench.run(50);
        bench.net(2);
        bench.edge(0, 1, 1);
        bench.ready();
        bench.choose(algorithm, 1);
        CHECKS.same(algorithm + ", two of five: held(1, 0) is there", bench.held(1, 0) != -2, true);
        for (int v = 2; v < Row.NODES; v++) {
            CHECKS.same(algorithm + ", two of five: held(" + v + ", 0)", bench.held(v, 0), -2);
        }
    }

    private static void askingChangesNothing(int algorithm) {
        Bench bench = Row.chosen(algorithm);
        bench.round();
        for (int asked = 0; asked < 3; asked++) {
            CHECKS.holds(algorithm + ", asked again", bench, Row.SECOND[algorithm]);
        }
        CHECKS.same(algorithm + ", asked again: rounds()", bench.rounds(), 1);
        CHECKS.same(algorithm + ", asked again: run(50)", bench.run(50), Row.rounds(algorithm) - 1);
    }

    private static void goneWithTheNet(int algorithm) {
        Bench bench = Row.chosen(algorithm);
        bench.round();
        bench.edge(0, 2, 1);
        for (int v = 0; v < Row.NODES; v++) {
            for (int slot = 0; slot < 3; slot++) {
                CHECKS.same(algorithm + " behind edge(): held()", bench.held(v, slot), -2);
            }
        }
    }
}

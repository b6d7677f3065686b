/** Counts and prints the answers that are not as due; shared by the tests. */
final class Checks {
    private int wrong = 0;

    void same(String what, long got, long due) {
        if (got != due) {
            wrong++;
            System.out.println(what + " answered " + got + ", due is " + due);
        }
    }

    void same(String what, boolean got, boolean due) {
        if (got != due) {
            wrong++;
            System.out.println(what + " answered " + got + ", due is " + due);
        }
    }

    /** What all nodes hold: a row of three slots for each node. */
    void holds(String what, Bench bench, int[][] dueByNode) {
        for (int v = 0; v < dueByNode.length; v++) {
            for (int slot = 0; slot < 3; slot++) {
                same(what + ": held(" + v + ", " + slot + ")", bench.held(v, slot), dueByNode[v][slot]);
            }
        }
        same(what + ": held(n, 0)", bench.held(dueByNode.length, 0), -2);
    }

    /** One slot of all nodes. */
    void slot(String what, Bench bench, int slot, int... due) {
        for (int v = 0; v < due.length; v++) {
            same(what + ": held(" + v + ", " + slot + ")", bench.held(v, slot), due[v]);
        }
    }

    /** One round, with what must be so behind it. */
    void round(String what, Bench bench, int letters, int[][] dueByNode) {
        int rounds = bench.rounds();
        int sent = bench.letters();
        same(what + ": finished() before", bench.finished(), false);
        same(what + ": round()", bench.round(), letters);
        same(what + ": rounds()", bench.rounds(), rounds + 1);
        same(what + ": letters()", bench.letters(), sent + letters);
        holds(what, bench, dueByNode);
    }

    /** A finished run, in which no call changes anything any more. */
    void over(String what, Bench bench, int rounds, int letters, int[][] dueByNode) {
        same(what + ": finished()", bench.finished(), true);
        same(what + ": round() at the end", bench.round(), -1);
        same(what + ": run(9) at the end", bench.run(9), 0);
        same(what + ": run(-1) at the end", bench.run(-1), -1);
        same(what + ": rounds() at the end", bench.rounds(), rounds);
        same(what + ": letters() at the end", bench.letters(), letters);
        holds(what + " at the end", bench, dueByNode);
    }

    /** All that a bench answers to while nothing is chosen. */
    void nothingChosen(String what, Bench bench) {
        same(what + ": round()", bench.round(), -1);
        same(what + ": run(0)", bench.run(0), -1);
        same(what + ": run(1)", bench.run(1), -1);
        same(what + ": finished()", bench.finished(), false);
        same(what + ": rounds()", bench.rounds(), -1);
        same(what + ": letters()", bench.letters(), -1);
        for (int slot = 0; slot < 3; slot++) {
            same(what + ": held(0, " + slot + ")", bench.held(0, slot), -2);
        }
    }

    /** That no call of choose() is taken, of a root or K that would be right in any net. */
    void notReady(String what, Bench bench) {
        for (int algorithm = 0; algorithm < 8; algorithm++) {
            int root = algorithm == 6 ? 1 : 0;
            same(what + ": choose(" + algorithm + ", " + root + ")", bench.choose(algorithm, root), false);
        }
    }

    /** That two benches answer the same to all that only asks; of nodes 0 .. n - 1. */
    void alike(String what, Bench bench, Bench twin, int n) {
        same(what + ": rounds()", bench.rounds(), twin.rounds());
        same(what + ": letters()", bench.letters(), twin.letters());
        same(what + ": finished()", bench.finished(), twin.finished());
        for (int v = 0; v < n; v++) {
            for (int slot = 0; slot < 3; slot++) {
                same(what + ": held(" + v + ", " + slot + ")", bench.held(v, slot), twin.held(v, slot));
            }
        }
    }

    void end() {
        if (wrong > 0) {
            System.out.println(wrong + " answers are wrong");
            System.exit(1);
        }
    }
}

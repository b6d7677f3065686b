/** Counts and prints the answers that are not as due; shared by the tests. */
final class Checks {
    private int wrong = 0;

    void same(String what, long got, long due) {
        if (got != due) {
            wrong++;
            System.out.println(what + " answered " + got + ", due is " + due);
        }
    }

    void same(String what, boolean got, boolean due) {
        if (got != due) {
            wrong++;
            System.out.println(what + " answered " + got + ", due is " + due);
        }
    }

    /** What all nodes hold: a row of three slots for each node. */
    void holds(String what, RoundBench bench, int[][] dueByNode) {
        for (int v = 0; v < dueByNode.length; v++) {
            for (int slot = 0; slot < 3; slot++) {
                same(what + ": held(" + v + ", " + slot + ")", bench.held(v, slot), dueByNode[v][slot]);
            }
        }
        same(what + ": held(n, 0)", bench.held(dueByNode.length, 0), -2);
    }

    /** One slot of all nodes. */
    void slot(String what, RoundBench bench, int slot, int... due) {
        for (int v = 0; v < due.length; v++) {
            same(what + ": held(" + v + ", " + slot + ")", bench.held(v, slot), due[v]);
        }
    }

    /** One round, with what must be so behind it. */
    void round(String what, RoundBench bench, int letters, int[][] dueByNode) {
        int rounds = bench.rounds();
        int sent = bench.letters();
        same(what + ": finished() before", bench.finished(), false);
        same(what + ": round()", bench.round(), letters);
        same(what + ": rounds()", bench.rounds(), rounds + 1);
        same(what + ": letters()", bench.letters(), sent + letters);
        holds(what, bench, dueByNode);
    }

    /** A finished run, in which no call changes anything any more. */
    void over(String what, RoundBench bench, int rounds, int letters, int[][] dueByNode) {
        same(what + ": finished()", bench.finished(), true);
        same(what + ": round() at the end", bench.round(), -1);
        same(what + ": run(9) at the end", bench.run(9), 0);
        same(what + ": run(-1) at the end", bench.run(-1), -1);
        same(what + ": rounds() at the end", bench.rounds(), rounds);
        same(what + ": letters() at the end", bench.letters(), letters);
        holds(what + " at the end", bench, dueByNode);
    }

    void end() {
        if (wrong > 0) {
            System.out.println(wrong + " answers are wrong");
            System.exit(1);
        }
    }
}

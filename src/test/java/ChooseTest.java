/** Promise 6, choose, and what each algorithm holds at first. */
public final class ChooseTest {
    private static final Checks CHECKS = new Checks();
    private static final int[] OF_A_ROOT = {1, 2, 3, 7};
    private static final int[] OF_NO_MATTER = {0, 4, 5};

    public static void main(String[] args) {
        notReady();
        algorithms();
        roots();
        rootsOfTwelve();
        numbersK();
        numbersKOfTwelveNodes();
        whatIsOfNoMatter();
        heldAtFirst();
        heldAtFirstOfTheKite();
        countsAtFirst();
        startsAnew();
        startsAnewBehindAnyOther();
        refusedKeepsTheRun();
        CHECKS.end();
    }

    /** "false when the net is not ready": whatever is chosen. */
    private static void notReady() {
        Bench bench = Row.unready();
        for (int algorithm = -1; algorithm <= 8; algorithm++) {
            for (int root : new int[] {-1, 0, 1, 4, 5, 12, 13}) {
                String call = "unready: choose(" + algorithm + ", " + root + ")";
                CHECKS.same(call, bench.choose(algorithm, root), false);
            }
        }
        CHECKS.nothingChosen("unready", bench);
    }

    /** "an algorithm, 0 .. 7" */
    private static void algorithms() {
        Bench bench = Row.ready();
        for (int algorithm : new int[] {Integer.MIN_VALUE, Integer.MIN_VALUE + 1, -8, -2, -1, 8, 9, 256,
            65536, Integer.MAX_VALUE}) {
            CHECKS.same("choose(" + algorithm + ", 1)", bench.choose(algorithm, 1), false);
        }
        CHECKS.nothingChosen("no such algorithm", bench);
        for (int algorithm = 0; algorithm <= 7; algorithm++) {
            CHECKS.same("choose(" + algorithm + ", 1)", bench.choose(algorithm, 1), true);
        }
    }

    /** "of a node as its root (1, 2, 3, 7)": -1 and N are none. */
    private static void roots() {
        for (int algorithm : OF_A_ROOT) {
            Bench bench = Row.ready();
            String call = "choose(" + algorithm + ", ";
            for (int root : new int[] {Integer.MIN_VALUE, -2, -1, 5, 6, 11, 12, 13, Integer.MAX_VALUE}) {
                CHECKS.same(call + root + ")", bench.choose(algorithm, root), false);
            }
            CHECKS.nothingChosen(algorithm + ", no such root", bench);
            for (int root = 0; root < 5; root++) {
                CHECKS.same(call + root + ")", bench.choose(algorithm, root), true);
            }
        }
    }

    private static void rootsOfTwelve() {
        for (int algorithm : OF_A_ROOT) {
            Bench bench = Nets.full();
            CHECKS.same("of twelve: choose(" + algorithm + ", 12)", bench.choose(algorithm, 12), false);
            CHECKS.same("of twelve: choose(" + algorithm + ", 11)", bench.choose(algorithm, 11), true);
            CHECKS.same("of twelve: choose(" + algorithm + ", -1)", bench.choose(algorithm, -1), false);
            CHECKS.same("of twelve: choose(" + algorithm + ", 0)", bench.choose(algorithm, 0), true);
        }
    }

    /** "of a number K, 1 .. 12", however few nodes there are */
    private static void numbersK() {
        Bench bench = Row.ready();
        for (int k : new int[] {Integer.MIN_VALUE, -1, 0, 13, 14, Integer.MAX_VALUE}) {
            CHECKS.same("choose(6, " + k + ")", bench.choose(6, k), false);
        }
        CHECKS.nothingChosen("no such K", bench);
        for (int k = 1; k <= 12; k++) {
            CHECKS.same("choose(6, " + k + ")", bench.choose(6, k), true);
        }
    }

    private static void numbersKOfTwelveNodes() {
        Bench bench = Nets.full();
        CHECKS.same("of twelve: choose(6, 0)", bench.choose(6, 0), false);
        CHECKS.same("of twelve: choose(6, 1)", bench.choose(6, 1), true);
        CHECKS.same("of twelve: choose(6, 12)", bench.choose(6, 12), true);
        CHECKS.same("of twelve: choose(6, 13)", bench.choose(6, 13), false);
    }

    /** "what is of no matter may be anything", and the whole run is the same then */
    private static void whatIsOfNoMatter() {
        for (int algorithm : OF_NO_MATTER) {
            for (int root : new int[] {Integer.MIN_VALUE, -2, -1, 0, 4, 5, 12, 13, Integer.MAX_VALUE}) {
                Bench bench = Row.ready();
                String call = "choose(" + algorithm + ", " + root + ")";
                CHECKS.same(call, bench.choose(algorithm, root), true);
                CHECKS.holds(call + " at first", bench, Row.FIRST[algorithm]);
                CHECKS.same(call + ": run(50)", bench.run(50), Row.rounds(algorithm));
                CHECKS.holds(call + " at the end", bench, Row.LAST[algorithm]);
            }
        }
    }

    private static void heldAtFirst() {
        for (int algorithm = 0; algorithm < Row.ALGORITHMS; algorithm++) {
            CHECKS.holds(algorithm + " at first", Row.chosen(algorithm), Row.FIRST[algorithm]);
        }
    }

    private static void heldAtFirstOfTheKite() {
        int[][][] due = {
            {{50, 0, -1}, {20, 0, -1}, {70, 0, -1}, {10, 0, -1}, {90, 0, -1}, {40, 0, -1}},
            {{-1, -1, 0}, {0, -1, 0}, {-1, -1, 0}, {-1, -1, 0}, {-1, -1, 0}, {-1, -1, 0}},
            {{50, 0, 0}, {20, 3, 0}, {70, 0, 0}, {10, 1, 0}, {90, 1, 0}, {40, 0, 0}},
            {{50, -1, -1}, {20, -1, -1}, {70, -1, -1}, {10, -1, -1}, {90, -1, -1}, {40, -1, -1}},
            {{0, 0, -1}, {0, 0, -1}, {0, 0, -1}, {0, 0, -1}, {0, 0, -1}, {0, 0, -1}},
            {{-1, 0, -1}, {-1, 0, -1}, {-1, 0, -1}, {-1, 0, -1}, {-1, 0, -1}, {-1, 0, -1}},
            {{1, 0, 2}, {1, 0, 3}, {1, 0, 3}, {1, 0, 3}, {1, 0, 2}, {1, 0, 1}},
            {{-1, 0, 0}, {0, 0, 0}, {-1, 0, 0}, {-1, 0, 0}, {-1, 0, 0}, {-1, 0, 0}},
        };
        Bench bench = Nets.kite();
        for (int algorithm = 0; algorithm < 8; algorithm++) {
            CHECKS.same("kite: choose(" + algorithm + ", 1)", bench.choose(algorithm, 1), true);
            CHECKS.holds("kite, algorithm " + algorithm + " at first", bench, due[algorithm]);
            // Of K = 1 nobody of a net whose nodes all have neighbours would ever get 0.
            CHECKS.same("kite: finished() at first", bench.finished(), algorithm == 6);
        }
    }

    private static void countsAtFirst() {
        for (int algorithm = 0; algorithm < Row.ALGORITHMS; algorithm++) {
            Bench bench = Row.chosen(algorithm);
            CHECKS.same(algorithm + ": rounds() at first", bench.rounds(), 0);
            CHECKS.same(algorithm + ": letters() at first", bench.letters(), 0);
            CHECKS.same(algorithm + ": finished() at first", bench.finished(), false);
        }
    }

    /** The same algorithm once more, in the midst of its run and at the end of it. */
    private static void startsAnew() {
        for (int algorithm = 0; algorithm < Row.ALGORITHMS; algorithm++) {
            Bench bench = Row.chosen(algorithm);
            for (int played : new int[] {1, Row.rounds(algorithm)}) {
                bench.run(played);
                String what = algorithm + " anew behind " + played + " rounds";
                CHECKS.same(what, bench.choose(algorithm, Row.ROOTS[algorithm]), true);
                CHECKS.same(what + ": rounds()", bench.rounds(), 0);
                CHECKS.same(what + ": letters()", bench.letters(), 0);
                CHECKS.same(what + ": finished()", bench.finished(), false);
                CHECKS.holds(what, bench, Row.FIRST[algorithm]);
            }
        }
    }

    private static void startsAnewBehindAnyOther() {
        for (int algorithm = 0; algorithm < Row.ALGORITHMS; algorithm++) {
            for (int other = 0; other < Row.ALGORITHMS; other++) {
                String what = algorithm + " behind " + other;
                Bench bench = Row.ready();
                bench.choose(other, 3);
                bench.run(2);
                bench.choose(algorithm, Row.ROOTS[algorithm]);
                CHECKS.same(what + ": rounds()", bench.rounds(), 0);
                CHECKS.same(what + ": letters()", bench.letters(), 0);
                CHECKS.holds(what + " at first", bench, Row.FIRST[algorithm]);
                CHECKS.same(what + ": run(50)", bench.run(50), Row.rounds(algorithm));
                CHECKS.same(what + ": letters() at the end", bench.letters(),
                    Row.letters(algorithm, Row.rounds(algorithm)));
                CHECKS.holds(what + " at the end", bench, Row.LAST[algorithm]);
            }
        }
    }

    /** A refused choose() leaves the run that is under way, its root and its K among it. */
    private static void refusedKeepsTheRun() {
        int[][] refused = {{-1, 0}, {8, 0}, {1, -1}, {1, 5}, {2, -1}, {2, 5}, {3, -1}, {3, 5},
            {6, 0}, {6, 13}, {7, -1}, {7, 5}};
        for (int algorithm = 0; algorithm < Row.ALGORITHMS; algorithm++) {
            for (int[] call : refused) {
                String what = algorithm + " behind a refused choose(" + call[0] + ", " + call[1] + ")";
                Bench bench = Row.chosen(algorithm);
                bench.round();
                CHECKS.same(what, bench.choose(call[0], call[1]), false);
                CHECKS.same(what + ": rounds()", bench.rounds(), 1);
                CHECKS.same(what + ": letters()", bench.letters(), Row.letters(algorithm, 1));
                CHECKS.holds(what, bench, Row.SECOND[algorithm]);
                CHECKS.same(what + ": run(50)", bench.run(50), Row.rounds(algorithm) - 1);
                CHECKS.holds(what + ", at the end", bench, Row.LAST[algorithm]);
            }
        }
    }
}

/**
 * Five nodes in a row with falling identities and falling weights, on which every algorithm takes
 * more than one round, and what is due there, worked by hand.
 */
final class Row {
    static final int NODES = 5;
    static final int ALGORITHMS = 8;

    /** The root, or K, that each algorithm is chosen of here. */
    static final int[] ROOTS = {0, 0, 0, 0, 0, 0, 2, 0};

    /** By algorithm: the letters of each round; the last round is the one that finishes it. */
    static final int[][] LETTERS = {
        {8, 7, 5, 3, 1},
        {1, 2, 2, 2, 1},
        {1, 1, 1, 1, 0},
        {4, 4, 4, 4},
        {8, 4, 0},
        {8, 4},
        {0, 2, 2},
        {1, 2, 2, 2, 1},
    };

    /** By algorithm: what is held at first, a row of slots for each node. */
    static final int[][][] FIRST = {
        {{50, 0, -1}, {40, 0, -1}, {30, 0, -1}, {20, 0, -1}, {10, 0, -1}},
        {{0, -1, 0}, {-1, -1, 0}, {-1, -1, 0}, {-1, -1, 0}, {-1, -1, 0}},
        {{50, 1, 0}, {40, 1, 0}, {30, 1, 0}, {20, 1, 0}, {10, 0, 0}},
        {{50, -1, -1}, {40, -1, -1}, {30, -1, -1}, {20, -1, -1}, {10, -1, -1}},
        {{0, 0, -1}, {0, 0, -1}, {0, 0, -1}, {0, 0, -1}, {0, 0, -1}},
        {{-1, 0, -1}, {-1, 0, -1}, {-1, 0, -1}, {-1, 0, -1}, {-1, 0, -1}},
        {{1, 0, 1}, {1, 0, 2}, {1, 0, 2}, {1, 0, 2}, {1, 0, 1}},
        {{0, 0, 0}, {-1, 0, 0}, {-1, 0, 0}, {-1, 0, 0}, {-1, 0, 0}},
    };

    /** By algorithm: what is held after the first round. */
    static final int[][][] SECOND = {
        {{40, 1, 1}, {30, 1, 2}, {20, 1, 3}, {10, 1, 4}, {10, 0, -1}},
        {{0, -1, 0}, {8, 0, 1}, {-1, -1, 0}, {-1, -1, 0}, {-1, -1, 0}},
        {{50, 1, 0}, {40, 1, 0}, {30, 1, 0}, {30, 0, 0}, {10, 0, 1}},
        {{0, -1, -1}, {2, -1, -1}, {3, -1, -1}, {2, -1, -1}, {3, -1, -1}},
        {{1, 1, -1}, {2, 1, -1}, {0, 0, -1}, {0, 0, -1}, {0, 0, -1}},
        {{1, 1, -1}, {0, 1, -1}, {-1, 0, -1}, {-1, 0, -1}, {-1, 0, -1}},
        {{0, 1, 1}, {1, 0, 2}, {1, 0, 2}, {1, 0, 2}, {0, 1, 1}},
        {{0, 0, 0}, {1, 0, 1}, {-1, 0, 0}, {-1, 0, 0}, {-1, 0, 0}},
    };

    /** By algorithm: what is held in the end. */
    static final int[][][] LAST = {
        {{10, 4, 1}, {10, 3, 2}, {10, 2, 3}, {10, 1, 4}, {10, 0, -1}},
        {{0, -1, 0}, {8, 0, 1}, {15, 1, 2}, {21, 2, 3}, {26, 3, 4}},
        {{150, 0, 1}, {100, 0, 1}, {60, 0, 1}, {30, 0, 1}, {10, 0, 1}},
        {{0, -1, -1}, {1, -1, -1}, {0, -1, -1}, {2, -1, -1}, {1, -1, -1}},
        {{1, 1, -1}, {2, 1, -1}, {1, 2, -1}, {2, 2, -1}, {1, 3, -1}},
        {{1, 1, -1}, {0, 1, -1}, {3, 2, -1}, {2, 2, -1}, {-1, 0, -1}},
        {{0, 1, 1}, {0, 2, 1}, {0, 3, 0}, {0, 2, 1}, {0, 1, 1}},
        {{0, 0, 0}, {1, 0, 1}, {0, 0, 2}, {1, 0, 3}, {0, 0, 4}},
    };

    private Row() {
    }

    static Bench unready() {
        Bench bench = new Bench();
        bench.net(NODES);
        Nets.edges(bench, new int[][] {{0, 1, 8}, {1, 2, 7}, {2, 3, 6}, {3, 4, 5}});
        Nets.identities(bench, 50, 40, 30, 20, 10);
        return bench;
    }

    static Bench ready() {
        Bench bench = unready();
        bench.ready();
        return bench;
    }

    static Bench chosen(int algorithm) {
        Bench bench = ready();
        bench.choose(algorithm, ROOTS[algorithm]);
        return bench;
    }

    /** How many rounds the whole run takes. */
    static int rounds(int algorithm) {
        return LETTERS[algorithm].length;
    }

    /** How many letters are sent in the first so many rounds. */
    static int letters(int algorithm, int rounds) {
        int sum = 0;
        for (int round = 0; round < rounds; round++) {
            sum += LETTERS[algorithm][round];
        }
        return sum;
    }
}

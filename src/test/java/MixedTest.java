/**
 * Promises 1 to 12 in runs of 512 calls of all kinds, right and wrong ones mixed, each answer
 * beside the one that the Ledger says is due: nothing of an earlier net or run may shine through.
 */
public final class MixedTest {
    private static final Checks CHECKS = new Checks();
    private static final int RUNS = 250;
    private static final int[] ODD = {Integer.MIN_VALUE, -2, -1, 12, 13, 999, 1000, Integer.MAX_VALUE};
    private static final int[] WEIGHTS = {1, 1, 2, 2, 3, 5, 8, 999, 999, 0, 1000};

    private static long seed = 8L;
    private static String run = "";
    private static Bench bench;
    private static Ledger due;
    // How often something was chosen, and how often a round was played: lest all be refused.
    private static int choices = 0;
    private static int played = 0;

    public static void main(String[] args) {
        for (int number = 0; number < RUNS; number++) {
            run = "run " + number + ", ";
            bench = new Bench();
            due = new Ledger();
            while (bench.callsLeft() > 0) {
                call();
            }
        }
        CHECKS.same("more than 20 choices a run", choices > 20 * RUNS, true);
        CHECKS.same("more than 20 rounds a run", played > 20 * RUNS, true);
        CHECKS.end();
    }

    // The same numbers in each run of the test.
    private static int below(int bound) {
        seed = seed * 6364136223846793005L + 1442695040888963407L;
        return (int) ((seed >>> 33) % bound);
    }

    /** Mostly a node, else one number too low or too high, else anything. */
    private static int node() {
        int kind = below(40);
        if (kind == 0) {
            return ODD[below(ODD.length)];
        }
        return kind == 1 ? below(2) * (due.nodes() + 1) - 1 : below(due.nodes());
    }

    /** What would lead on is called most often: edges till it is ready, then runs. */
    private static void call() {
        int kind = below(100);
        if (kind < 3 || due.nodes() == 1 && kind < 20) {
            net();
        } else if (due.isChosen()) {
            callOfARun(kind);
        } else if (due.isReady()) {
            callOfAReadyNet(kind);
        } else {
            callOfAnUnreadyNet(kind);
        }
    }

    private static void callOfAnUnreadyNet(int kind) {
        if (kind < 60) {
            edge();
        } else if (kind < 75) {
            identity();
        } else if (kind < 92) {
            ready();
        } else if (kind < 95) {
            choose();
        } else {
            ask();
        }
    }

    private static void callOfAReadyNet(int kind) {
        if (kind < 10) {
            edge();
        } else if (kind < 15) {
            identity();
        } else if (kind < 80) {
            choose();
        } else {
            ask();
        }
    }

    private static void callOfARun(int kind) {
        if (kind < 5) {
            edge();
        } else if (kind < 7) {
            identity();
        } else if (kind < 11) {
            ready();
        } else if (kind < 21) {
            choose();
        } else if (kind < 45) {
            round();
        } else if (kind < 50) {
            run();
        } else {
            ask();
        }
    }

    private static void ask() {
        switch (below(9)) {
            case 0 -> CHECKS.same(run + "finished()", bench.finished(), due.finished());
            case 1 -> CHECKS.same(run + "rounds()", bench.rounds(), due.rounds());
            case 2 -> CHECKS.same(run + "letters()", bench.letters(), due.letters());
            case 3 -> round();
            default -> held();
        }
    }

    private static void net() {
        int n = below(8) == 0 ? ODD[below(ODD.length)] : 1 + below(12);
        CHECKS.same(run + "net(" + n + ")", bench.net(n), due.net(n));
    }

    private static void edge() {
        int a = node();
        int b = node();
        int weight = below(4) == 0 ? below(1002) : WEIGHTS[below(WEIGHTS.length)];
        String call = run + "edge(" + a + ", " + b + ", " + weight + ")";
        CHECKS.same(call, bench.edge(a, b, weight), due.edge(a, b, weight));
    }

    private static void identity() {
        int v = node();
        int id = below(4) == 0 ? below(16) : below(1002);
        CHECKS.same(run + "identity(" + v + ", " + id + ")", bench.identity(v, id), due.identity(v, id));
    }

    private static void ready() {
        CHECKS.same(run + "ready()", bench.ready(), due.ready());
    }

    private static void choose() {
        int algorithm = below(20) == 0 ? below(2) * 9 - 1 : below(8);
        int root = algorithm == 6 ? below(14) : node();
        boolean taken = due.choose(algorithm, root);
        CHECKS.same(run + "choose(" + algorithm + ", " + root + ")", bench.choose(algorithm, root), taken);
        choices += taken ? 1 : 0;
    }

    private static void round() {
        int sent = due.round();
        CHECKS.same(run + "round()", bench.round(), sent);
        played += sent >= 0 ? 1 : 0;
    }

    private static void run() {
        int limit = below(8) == 0 ? ODD[below(ODD.length)] : below(5);
        CHECKS.same(run + "run(" + limit + ")", bench.run(limit), due.run(limit));
    }

    private static void held() {
        int v = node();
        int slot = below(12) == 0 ? below(6) - 2 : below(3);
        CHECKS.same(run + "held(" + v + ", " + slot + ")", bench.held(v, slot), due.held(v, slot));
    }
}

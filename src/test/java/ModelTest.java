/** Promises 6 to 12 on many nets of all sizes, each algorithm beside the model of it. */
public final class ModelTest {
    private static final Checks CHECKS = new Checks();
    private static final int NETS = 600;

    private static long seed = 20261115L;

    public static void main(String[] args) {
        for (int net = 0; net < NETS; net++) {
            Model model = makeModel(1 + net % 12, net / 12 % 3);
            for (int algorithm = 0; algorithm < 8; algorithm++) {
                int root = algorithm == 6 ? 1 + below(net % 4 == 0 ? 12 : 4) : below(model.n);
                follow("net " + net + ", choose(" + algorithm + ", " + root + ")", model, algorithm, root);
            }
        }
        CHECKS.end();
    }

    // The same numbers in each run of the test.
    private static int below(int bound) {
        seed = seed * 6364136223846793005L + 1442695040888963407L;
        return (int) ((seed >>> 33) % bound);
    }

    /** A tree that grows node by node, with edges added; of kind 0 long, of kind 1 light. */
    private static Model makeModel(int n, int kind) {
        int most = Math.min(24, n * (n - 1) / 2);
        int count = Math.min(most, n - 1 + below(2 * n));
        int[][] edges = new int[count][];
        boolean[][] taken = new boolean[n][n];
        int[] names = shuffled(n);
        int made = 0;
        for (int v = 1; v < n; v++) {
            int to = kind == 0 ? v - 1 : below(v);
            edges[made++] = makeEdge(names[v], names[to], kind, taken);
        }
        while (made < count) {
            int a = below(n);
            int b = below(n);
            if (a != b && !taken[a][b]) {
                edges[made++] = makeEdge(a, b, kind, taken);
            }
        }
        return new Model(n, mixed(edges), makeIdentities(n));
    }

    private static int[] makeEdge(int a, int b, int kind, boolean[][] taken) {
        taken[a][b] = true;
        taken[b][a] = true;
        return new int[] {a, b, 1 + below(kind == 1 ? 3 : 999)};
    }

    private static int[] shuffled(int n) {
        int[] row = new int[n];
        for (int i = 0; i < n; i++) {
            int j = below(i + 1);
            row[i] = row[j];
            row[j] = i;
        }
        return row;
    }

    private static int[][] mixed(int[][] edges) {
        int[] order = shuffled(edges.length);
        int[][] row = new int[edges.length][];
        for (int i = 0; i < order.length; i++) {
            row[i] = edges[order[i]];
        }
        return row;
    }

    private static int[] makeIdentities(int n) {
        int[] ids = new int[n];
        boolean[] taken = new boolean[1000];
        for (int v = 0; v < n; v++) {
            int id = 1 + below(999);
            while (taken[id]) {
                id = 1 + below(999);
            }
            taken[id] = true;
            ids[v] = id;
        }
        return ids;
    }

    private static Bench makeBench(Model model) {
        Bench bench = new Bench();
        bench.net(model.n);
        Nets.edges(bench, model.edges);
        Nets.identities(bench, model.ids);
        CHECKS.same("ready()", bench.ready(), 0);
        return bench;
    }

    private static Bench makeChosen(String what, Model model, int algorithm, int root) {
        Bench bench = makeBench(model);
        CHECKS.same(what, bench.choose(algorithm, root), true);
        return bench;
    }

    /** One bench goes on by round(); what is held is asked of others, to stay below 512 calls. */
    private static void follow(String what, Model model, int algorithm, int root) {
        Bench bench = makeChosen(what, model, algorithm, root);
        int letters = 0;
        int round = 0;
        while (!model.finished(algorithm, root, round) && round < 20) {
            String where = what + ", round " + round;
            look(where, model, algorithm, root, round, letters);
            CHECKS.same(where + ": finished()", bench.finished(), false);
            int due = model.letters(algorithm, root, round);
            CHECKS.same(where + ": round()", bench.round(), due);
            letters += due;
            round++;
        }
        look(what + " in the end", model, algorithm, root, round, letters);
        CHECKS.same(what + ": finished()", bench.finished(), true);
        CHECKS.same(what + ": rounds()", bench.rounds(), round);
        CHECKS.same(what + ": letters()", bench.letters(), letters);
        CHECKS.same(what + ": round() in the end", bench.round(), -1);
        holds(what, bench, model.held(algorithm, root, round));
        CHECKS.same(what + ": choose() again", bench.choose(algorithm, root), true);
        CHECKS.same(what + ": run(greatest)", bench.run(Integer.MAX_VALUE), round);
        holds(what + " by run()", bench, model.held(algorithm, root, round));
    }

    private static void look(String what, Model model, int algorithm, int root, int rounds, int letters) {
        Bench bench = makeChosen(what, model, algorithm, root);
        CHECKS.same(what + ": run(" + rounds + ")", bench.run(rounds), rounds);
        CHECKS.same(what + ": rounds()", bench.rounds(), rounds);
        CHECKS.same(what + ": letters()", bench.letters(), letters);
        holds(what, bench, model.held(algorithm, root, rounds));
    }

    private static void holds(String what, Bench bench, int[][] due) {
        for (int v = 0; v < due.length; v++) {
            for (int slot = 0; slot < 3; slot++) {
                CHECKS.same(what + ": held(" + v + ", " + slot + ")", bench.held(v, slot), due[v][slot]);
            }
        }
    }
}

import java.util.ArrayList;
import java.util.Arrays;
import java.util.List;

/**
 * What is due to each call of a whole run of calls: the net that was built, whether it is ready,
 * and what was chosen of it. What nodes hold is asked of the Model, so no run is kept here but
 * how many rounds there were.
 */
final class Ledger {
    private static final int NONE = -1;

    private int n = 1;
    private final List<int[]> edges = new ArrayList<>();
    private final int[] ids = new int[12];
    private boolean ready = false;
    private Model model = null;
    private int algorithm;
    private int root;
    private int rounds;
    private int letters;

    Ledger() {
        nameNodes();
    }

    int nodes() {
        return n;
    }

    boolean isReady() {
        return ready;
    }

    boolean isChosen() {
        return model != null;
    }

    private void nameNodes() {
        for (int v = 0; v < ids.length; v++) {
            ids[v] = v + 1;
        }
    }

    private void changed() {
        ready = false;
        model = null;
    }

    private boolean isNode(int v) {
        return 0 <= v && v <= n - 1;
    }

    boolean net(int newN) {
        boolean taken = 1 <= newN && newN <= 12;
        if (taken) {
            n = newN;
            edges.clear();
            nameNodes();
            changed();
        }
        return taken;
    }

    int edge(int a, int b, int weight) {
        boolean taken = edges.size() != 24 && isNode(a) && isNode(b) && a != b && 1 <= weight && weight <= 999;
        for (int[] edge : edges) {
            taken &= !(edge[0] == a && edge[1] == b) && !(edge[0] == b && edge[1] == a);
        }
        if (!taken) {
            return NONE;
        }
        edges.add(new int[] {a, b, weight});
        changed();
        return edges.size() - 1;
    }

    boolean identity(int v, int id) {
        boolean taken = isNode(v) && 1 <= id && id <= 999;
        if (taken) {
            ids[v] = id;
            changed();
        }
        return taken;
    }

    /** Edges join parts until no two are joined by one: then all must be of one part. */
    private boolean isWhole() {
        int[] part = new int[n];
        for (int v = 0; v < n; v++) {
            part[v] = v;
        }
        for (int[] edge : edges) {
            int gone = part[edge[0]];
            int kept = part[edge[1]];
            for (int v = 0; v < n; v++) {
                part[v] = part[v] == gone ? kept : part[v];
            }
        }
        for (int v = 0; v < n; v++) {
            if (part[v] != part[0]) {
                return false;
            }
        }
        return true;
    }

    private boolean hasTwins() {
        boolean[] seen = new boolean[1000];
        for (int v = 0; v < n; v++) {
            if (seen[ids[v]]) {
                return true;
            }
            seen[ids[v]] = true;
        }
        return false;
    }

    int ready() {
        if (!isWhole()) {
            return 1;
        }
        if (hasTwins()) {
            return 2;
        }
        ready = true;
        return 0;
    }

    boolean choose(int newAlgorithm, int newRoot) {
        boolean taken = switch (newAlgorithm) {
            case 0, 4, 5 -> ready;
            case 1, 2, 3, 7 -> ready && isNode(newRoot);
            case 6 -> ready && 1 <= newRoot && newRoot <= 12;
            default -> false;
        };
        if (taken) {
            algorithm = newAlgorithm;
            root = newRoot;
            rounds = 0;
            letters = 0;
            model = new Model(n, edges.toArray(new int[0][]), Arrays.copyOf(ids, n));
        }
        return taken;
    }

    int round() {
        if (model == null || finished()) {
            return NONE;
        }
        int sent = model.letters(algorithm, root, rounds);
        rounds++;
        letters += sent;
        return sent;
    }

    int run(int limit) {
        if (model == null || limit < 0) {
            return NONE;
        }
        int from = rounds;
        while (rounds - from < limit && !finished()) {
            round();
        }
        return rounds - from;
    }

    boolean finished() {
        return model != null && model.finished(algorithm, root, rounds);
    }

    int rounds() {
        return model == null ? NONE : rounds;
    }

    int letters() {
        return model == null ? NONE : letters;
    }

    int held(int v, int slot) {
        if (model == null || !isNode(v) || slot < 0 || slot > 2) {
            return -2;
        }
        return model.held(algorithm, root, rounds)[v][slot];
    }
}

/**
 * What the document says of a net after r rounds, said once more by other means: from distances,
 * heights and sums of ways of r edges, without keeping a state of the run where that can be done.
 */
final class Model {
    static final int NONE = -1;
    private static final int HUGE = 1_000_000;

    final int n;
    final int[][] edges;
    final int[] ids;
    final int[][] far;
    final int[][] weight;

    Model(int n, int[][] edges, int[] ids) {
        this.n = n;
        this.edges = edges;
        this.ids = ids;
        far = new int[n][n];
        weight = new int[n][n];
        for (int a = 0; a < n; a++) {
            for (int b = 0; b < n; b++) {
                far[a][b] = a == b ? 0 : HUGE;
            }
        }
        for (int[] edge : edges) {
            far[edge[0]][edge[1]] = 1;
            far[edge[1]][edge[0]] = 1;
            weight[edge[0]][edge[1]] = edge[2];
            weight[edge[1]][edge[0]] = edge[2];
        }
        for (int c = 0; c < n; c++) {
            for (int a = 0; a < n; a++) {
                for (int b = 0; b < n; b++) {
                    far[a][b] = Math.min(far[a][b], far[a][c] + far[c][b]);
                }
            }
        }
    }

    int degree(int v) {
        int degree = 0;
        for (int[] edge : edges) {
            if (edge[0] == v || edge[1] == v) {
                degree++;
            }
        }
        return degree;
    }

    /** Rows of slots by node, after r rounds. */
    int[][] held(int algorithm, int root, int r) {
        return switch (algorithm) {
            case 0 -> least(r);
            case 1 -> ways(root, r);
            case 2 -> sums(root, r);
            case 3 -> colours(root, r);
            case 4 -> chosen(r);
            case 5 -> pairs(r);
            case 6 -> core(root, r);
            default -> sides(root, r);
        };
    }

    /** How many letters are sent in round r + 1. */
    int letters(int algorithm, int root, int r) {
        int[][] now = held(algorithm, root, r);
        int[][] old = r == 0 ? null : held(algorithm, root, r - 1);
        int sum = 0;
        for (int v = 0; v < n; v++) {
            boolean changed = r > 0 && now[v][0] != old[v][0];
            switch (algorithm) {
                case 0 -> sum += r == 0 || changed ? degree(v) : 0;
                case 1 -> sum += r == 0 && v == root || changed ? degree(v) : 0;
                case 2 -> sum += v != root && height(root, v) == r ? 1 : 0;
                case 3 -> sum += children(root, v);
                case 4 -> sum += now[v][0] == 0 ? neighboursWith(now, v, 0) : 0;
                case 5 -> sum += now[v][0] == NONE ? neighboursWith(now, v, NONE) : 0;
                case 6 -> sum += r > 0 && now[v][1] == r ? neighboursWith(now, v, 1) : 0;
                default -> sum += far[root][v] == r ? degree(v) : 0;
            }
        }
        return sum;
    }

    boolean finished(int algorithm, int root, int r) {
        int[][] now = held(algorithm, root, r);
        switch (algorithm) {
            case 0:
            case 1:
            case 7:
                return letters(algorithm, root, r) == 0;
            case 2:
                return now[root][2] == 1;
            case 3:
                return r >= 4;
            case 4:
                for (int[] row : now) {
                    if (row[0] == 0) {
                        return false;
                    }
                }
                return true;
            case 5:
                for (int[] edge : edges) {
                    if (now[edge[0]][0] == NONE && now[edge[1]][0] == NONE) {
                        return false;
                    }
                }
                return true;
            default:
                for (int v = 0; v < n; v++) {
                    if (now[v][0] == 1 && neighboursWith(now, v, 1) < root) {
                        return false;
                    }
                }
                return true;
        }
    }

    private int neighboursWith(int[][] now, int v, int value) {
        int count = 0;
        for (int u = 0; u < n; u++) {
            if (far[u][v] == 1 && now[u][0] == value) {
                count++;
            }
        }
        return count;
    }

    private int nearer(int v, int to) {
        for (int u = 0; u < n; u++) {
            if (far[u][v] == 1 && far[u][to] == far[v][to] - 1) {
                return u;
            }
        }
        return NONE;
    }

    private int[][] least(int r) {
        int[][] rows = new int[n][];
        for (int v = 0; v < n; v++) {
            int best = v;
            for (int u = 0; u < n; u++) {
                if (far[u][v] <= r && ids[u] < ids[best]) {
                    best = u;
                }
            }
            rows[v] = new int[] {ids[best], far[v][best], nearer(v, best)};
        }
        return rows;
    }

    /** The least sum of ways of exactly r edges (a node may come twice), or HUGE. */
    private int exact(int root, int v, int r, int[][] known) {
        if (r == 0) {
            return v == root ? 0 : HUGE;
        }
        if (known[r][v] == 0) {
            int best = HUGE;
            for (int u = 0; u < n; u++) {
                if (far[u][v] == 1) {
                    best = Math.min(best, exact(root, u, r - 1, known) + weight[u][v]);
                }
            }
            known[r][v] = best;
        }
        return known[r][v];
    }

    private int[] waySums(int root, int r) {
        int[][] known = new int[r + 1][n];
        int[] sums = new int[n];
        for (int v = 0; v < n; v++) {
            int best = HUGE;
            for (int k = 0; k <= r; k++) {
                best = Math.min(best, exact(root, v, k, known));
            }
            sums[v] = best >= HUGE ? NONE : best;
        }
        return sums;
    }

    private int[][] ways(int root, int r) {
        int[] last = waySums(root, r);
        int[][] rows = new int[n][];
        for (int v = 0; v < n; v++) {
            rows[v] = new int[] {last[v], NONE, 0};
        }
        for (int k = 1; k <= r; k++) {
            int[] old = waySums(root, k - 1);
            int[] now = waySums(root, k);
            for (int v = 0; v < n; v++) {
                if (now[v] != old[v]) {
                    rows[v][2] = k;
                    for (int u = n - 1; u >= 0; u--) {
                        if (far[u][v] == 1 && old[u] != NONE && old[u] + weight[u][v] == now[v]) {
                            rows[v][1] = u;
                        }
                    }
                }
            }
        }
        return rows;
    }

    private int parent(int root, int v) {
        return nearer(v, root);
    }

    private int children(int root, int v) {
        int count = 0;
        for (int u = 0; u < n; u++) {
            if (parent(root, u) == v) {
                count++;
            }
        }
        return count;
    }

    /** How many edges it is down to the farthest leaf of the tree under v. */
    private int height(int root, int v) {
        int height = 0;
        for (int u = 0; u < n; u++) {
            if (parent(root, u) == v) {
                height = Math.max(height, height(root, u) + 1);
            }
        }
        return height;
    }

    private int treeSum(int root, int v) {
        int sum = ids[v];
        for (int u = 0; u < n; u++) {
            if (parent(root, u) == v) {
                sum += treeSum(root, u);
            }
        }
        return sum;
    }

    private int[][] sums(int root, int r) {
        int[][] rows = new int[n][];
        for (int v = 0; v < n; v++) {
            rows[v] = new int[] {ids[v], children(root, v), height(root, v) < r ? 1 : 0};
            for (int u = 0; u < n; u++) {
                if (parent(root, u) == v && height(root, u) < r) {
                    rows[v][0] += treeSum(root, u);
                    rows[v][1]--;
                }
            }
        }
        return rows;
    }

    private int colour(int root, int v, int r) {
        if (r == 0) {
            return ids[v];
        }
        int own = colour(root, v, r - 1);
        if (v == root) {
            return own % 2;
        }
        int other = colour(root, parent(root, v), r - 1);
        int place = 0;
        while (own % 2 == other % 2) {
            own /= 2;
            other /= 2;
            place++;
        }
        return 2 * place + own % 2;
    }

    private int[][] colours(int root, int r) {
        int[][] rows = new int[n][];
        for (int v = 0; v < n; v++) {
            rows[v] = new int[] {colour(root, v, r), NONE, NONE};
        }
        return rows;
    }

    private int[][] chosen(int r) {
        int[][] rows = new int[n][];
        for (int v = 0; v < n; v++) {
            rows[v] = new int[] {0, 0, NONE};
        }
        for (int k = 1; k <= r; k++) {
            boolean[] wins = new boolean[n];
            for (int v = 0; v < n; v++) {
                wins[v] = rows[v][0] == 0;
                for (int u = 0; u < n; u++) {
                    wins[v] &= far[u][v] != 1 || rows[u][0] != 0 || ids[u] < ids[v];
                }
            }
            for (int v = 0; v < n; v++) {
                for (int u = 0; u < n; u++) {
                    if (wins[v] && (u == v || far[u][v] == 1 && rows[u][0] == 0)) {
                        rows[u][0] = u == v ? 1 : 2;
                        rows[u][1] = k;
                    }
                }
            }
        }
        return rows;
    }

    private boolean beaten(int e, int[][] rows) {
        for (int f = 0; f < edges.length; f++) {
            boolean touches = edges[f][0] == edges[e][0] || edges[f][0] == edges[e][1]
                || edges[f][1] == edges[e][0] || edges[f][1] == edges[e][1];
            boolean free = rows[edges[f][0]][0] == NONE && rows[edges[f][1]][0] == NONE;
            boolean heavier = edges[f][2] > edges[e][2] || edges[f][2] == edges[e][2] && f < e;
            if (f != e && touches && free && heavier) {
                return true;
            }
        }
        return false;
    }

    private int[][] pairs(int r) {
        int[][] rows = new int[n][];
        for (int v = 0; v < n; v++) {
            rows[v] = new int[] {NONE, 0, NONE};
        }
        for (int k = 1; k <= r; k++) {
            int[][] next = new int[n][];
            for (int v = 0; v < n; v++) {
                next[v] = rows[v].clone();
            }
            for (int e = 0; e < edges.length; e++) {
                int a = edges[e][0];
                int b = edges[e][1];
                if (rows[a][0] == NONE && rows[b][0] == NONE && !beaten(e, rows)) {
                    next[a] = new int[] {b, k, NONE};
                    next[b] = new int[] {a, k, NONE};
                }
            }
            rows = next;
        }
        return rows;
    }

    private int[][] core(int least, int r) {
        int[][] rows = new int[n][];
        for (int v = 0; v < n; v++) {
            rows[v] = new int[] {1, 0, degree(v)};
        }
        for (int k = 1; k <= r; k++) {
            int[] counts = new int[n];
            for (int v = 0; v < n; v++) {
                counts[v] = neighboursWith(rows, v, 1);
            }
            for (int v = 0; v < n; v++) {
                if (rows[v][0] == 1) {
                    boolean drops = counts[v] < least;
                    rows[v] = new int[] {drops ? 0 : 1, drops ? k : 0, counts[v]};
                }
            }
        }
        return rows;
    }

    private int[][] sides(int root, int r) {
        int[][] rows = new int[n][];
        for (int v = 0; v < n; v++) {
            int d = far[root][v];
            int same = 0;
            for (int u = 0; u < n; u++) {
                if (far[u][v] == 1 && far[root][u] == d && r > d) {
                    same = 1;
                }
            }
            rows[v] = new int[] {d <= r ? d % 2 : NONE, same, d <= r ? d : 0};
        }
        return rows;
    }
}

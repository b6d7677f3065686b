import java.util.Arrays;

/**
 * A bench for algorithms of a net whose nodes know nothing but themselves and send letters to
 * their neighbours, round by round.
 */
public final class RoundBench {
    public static final int NONE = -1;

    private static final int MOST_NODES = 12;
    private static final int MOST_EDGES = 24;
    private static final int MOST_WEIGHT = 999;
    private static final int MOST_IDENTITY = 999;
    private static final int MOST_K = 12;
    private static final int SLOTS = 3;
    private static final int NOTHING_HELD = -2;

    private static final int IS_READY = 0;
    private static final int IS_APART = 1;
    private static final int HAS_TWINS = 2;

    // No run of 12 nodes needs more than 12 rounds; a caller's limit may be any number.
    private static final int ROUNDS_BOUND = 1000;

    private final Course course;
    private final Algorithm[] algorithms;
    private Algorithm chosen;
    private boolean netIsReady;

    public RoundBench() {
        course = new Course();
        algorithms = new Algorithm[] {
            new Least(), new Ways(), new Sums(), new Colours(),
            new Chosen(), new Pairs(), new Core(), new Sides()
        };
        chosen = null;
        netIsReady = false;
    }

    public boolean net(int n) {
        if (n < 1 || n > MOST_NODES) {
            return false;
        }
        course.net.clear(n);
        forgetReadiness();
        return true;
    }

    public int edge(int a, int b, int weight) {
        if (!course.net.takesEdge(a, b, weight)) {
            return NONE;
        }
        forgetReadiness();
        return course.net.addEdge(a, b, weight);
    }

    public boolean identity(int v, int id) {
        if (!course.net.hasNode(v) || id < 1 || id > MOST_IDENTITY) {
            return false;
        }
        course.net.identities[v] = id;
        forgetReadiness();
        return true;
    }

    public int ready() {
        if (!course.net.isConnected()) {
            return IS_APART;
        }
        if (course.net.hasTwins()) {
            return HAS_TWINS;
        }
        netIsReady = true;
        return IS_READY;
    }

    public boolean choose(int algorithm, int root) {
        if (!netIsReady || algorithm < 0 || algorithm >= algorithms.length) {
            return false;
        }
        if (!algorithms[algorithm].takes(course.net, root)) {
            return false;
        }
        chosen = algorithms[algorithm];
        course.reset(root);
        chosen.start(course);
        course.settle();
        return true;
    }

    public int round() {
        if (chosen == null || chosen.isOver(course)) {
            return NONE;
        }
        return playRound();
    }

    public int run(int limit) {
        if (chosen == null || limit < 0) {
            return NONE;
        }
        int bound = Math.min(limit, ROUNDS_BOUND);
        int played = 0;
        while (played < bound && !chosen.isOver(course)) {
            playRound();
            played++;
        }
        return played;
    }

    public boolean finished() {
        return chosen != null && chosen.isOver(course);
    }

    public int rounds() {
        return chosen == null ? NONE : course.round;
    }

    public int letters() {
        return chosen == null ? NONE : course.letters;
    }

    public int held(int v, int slot) {
        if (chosen == null || !course.net.hasNode(v) || slot < 0 || slot >= SLOTS) {
            return NOTHING_HELD;
        }
        return course.held[slot][v];
    }

    private void forgetReadiness() {
        netIsReady = false;
        chosen = null;
    }

    private int playRound() {
        course.round++;
        int sent = chosen.countLetters(course);
        chosen.change(course);
        course.letters += sent;
        course.markFresh();
        course.settle();
        return sent;
    }

    /** The nodes with their identities, and the edges with their weights. */
    private static final class Net {
        final int[] identities = new int[MOST_NODES];
        final int[] weights = new int[MOST_EDGES];
        final int[][] edgeBetween = new int[MOST_NODES][MOST_NODES];
        // How far each node is from the one that measureFrom() was asked for; NONE if unreached.
        final int[] far = new int[MOST_NODES];
        int nodes;
        int edges;

        Net() {
            clear(1);
        }

        void clear(int n) {
            nodes = n;
            edges = 0;
            for (int v = 0; v < MOST_NODES; v++) {
                identities[v] = v + 1;
                Arrays.fill(edgeBetween[v], NONE);
            }
        }

        boolean hasNode(int v) {
            return v >= 0 && v < nodes;
        }

        boolean areNeighbours(int a, int b) {
            return edgeBetween[a][b] != NONE;
        }

        boolean takesEdge(int a, int b, int weight) {
            return edges < MOST_EDGES
                && hasNode(a) && hasNode(b) && a != b
                && !areNeighbours(a, b)
                && weight >= 1 && weight <= MOST_WEIGHT;
        }

        int addEdge(int a, int b, int weight) {
            int number = edges;
            weights[number] = weight;
            edgeBetween[a][b] = number;
            edgeBetween[b][a] = number;
            edges++;
            return number;
        }

        int weightBetween(int a, int b) {
            return weights[edgeBetween[a][b]];
        }

        int countNeighbours(int v) {
            int count = 0;
            for (int u = 0; u < nodes; u++) {
                if (areNeighbours(v, u)) {
                    count++;
                }
            }
            return count;
        }

        boolean isHeavier(int edge, int other) {
            if (weights[edge] != weights[other]) {
                return weights[edge] > weights[other];
            }
            return edge < other;
        }

        boolean hasTwins() {
            for (int a = 0; a < nodes; a++) {
                for (int b = a + 1; b < nodes; b++) {
                    if (identities[a] == identities[b]) {
                        return true;
                    }
                }
            }
            return false;
        }

        boolean isConnected() {
            measureFrom(0);
            for (int v = 0; v < nodes; v++) {
                if (far[v] == NONE) {
                    return false;
                }
            }
            return true;
        }

        void measureFrom(int start) {
            Arrays.fill(far, NONE);
            far[start] = 0;
            for (int distance = 0; distance < nodes; distance++) {
                for (int v = 0; v < nodes; v++) {
                    if (far[v] == distance) {
                        reachNeighbours(v);
                    }
                }
            }
        }

        private void reachNeighbours(int v) {
            for (int u = 0; u < nodes; u++) {
                if (areNeighbours(v, u) && far[u] == NONE) {
                    far[u] = far[v] + 1;
                }
            }
        }

        /** The least-numbered neighbour that is one edge nearer to where measureFrom() began. */
        int nearerNeighbour(int v) {
            if (far[v] <= 0) {
                return NONE;
            }
            for (int u = 0; u < nodes; u++) {
                if (areNeighbours(v, u) && far[u] == far[v] - 1) {
                    return u;
                }
            }
            return NONE;
        }
    }

    /**
     * The net and the course of a run on it. An algorithm looks at "before" and writes to "held",
     * so that all nodes change at once; between two rounds the two are the same.
     */
    private static final class Course {
        final Net net = new Net();
        final int[][] held = new int[SLOTS][MOST_NODES];
        final int[][] before = new int[SLOTS][MOST_NODES];
        // Whose slot 0 changed in the latest round, or who else is to send in the first one.
        final boolean[] fresh = new boolean[MOST_NODES];
        final int[] parents = new int[MOST_NODES];
        // The second argument of choose(): the K of CORE, of no matter for some.
        int root;
        int round;
        int letters;

        void reset(int newRoot) {
            root = newRoot;
            round = 0;
            letters = 0;
            setFresh(false);
        }

        void setFresh(boolean value) {
            for (int v = 0; v < MOST_NODES; v++) {
                fresh[v] = value;
            }
        }

        void holdEverywhere(int first, int second, int third) {
            Arrays.fill(held[0], first);
            Arrays.fill(held[1], second);
            Arrays.fill(held[2], third);
        }

        void holdIdentities() {
            System.arraycopy(net.identities, 0, held[0], 0, MOST_NODES);
        }

        void markFresh() {
            for (int v = 0; v < net.nodes; v++) {
                fresh[v] = held[0][v] != before[0][v];
            }
        }

        void settle() {
            for (int slot = 0; slot < SLOTS; slot++) {
                System.arraycopy(held[slot], 0, before[slot], 0, MOST_NODES);
            }
        }

        void growTree() {
            net.measureFrom(root);
            for (int v = 0; v < net.nodes; v++) {
                parents[v] = net.nearerNeighbour(v);
            }
        }

        int countNeighboursWith(int v, int value) {
            int count = 0;
            for (int u = 0; u < net.nodes; u++) {
                if (net.areNeighbours(v, u) && before[0][u] == value) {
                    count++;
                }
            }
            return count;
        }

        /** The letters that all nodes with this value in slot 0 send to all neighbours with it. */
        int countLettersAmong(int value) {
            int count = 0;
            for (int v = 0; v < net.nodes; v++) {
                if (before[0][v] == value) {
                    count += countNeighboursWith(v, value);
                }
            }
            return count;
        }

        /** The letters that all fresh nodes send to all their neighbours. */
        int countFreshLetters() {
            int count = 0;
            for (int v = 0; v < net.nodes; v++) {
                if (fresh[v]) {
                    count += net.countNeighbours(v);
                }
            }
            return count;
        }
    }

    /** What one of the eight algorithms does; what it knows of a run stands in the course. */
    private abstract static class Algorithm {
        /** Whether it can be chosen of this root, or K. */
        abstract boolean takes(Net net, int root);

        abstract void start(Course course);

        abstract boolean isOver(Course course);

        abstract int countLetters(Course course);

        abstract void change(Course course);
    }

    /** Algorithm 0. */
    private static final class Least extends Algorithm {
        boolean takes(Net net, int root) {
            return true;
        }

        void start(Course course) {
            course.holdEverywhere(NONE, 0, NONE);
            course.holdIdentities();
            course.setFresh(true);
        }

        boolean isOver(Course course) {
            return course.countFreshLetters() == 0;
        }

        int countLetters(Course course) {
            return course.countFreshLetters();
        }

        void change(Course course) {
            for (int v = 0; v < course.net.nodes; v++) {
                learn(course, v);
            }
        }

        // Neighbours come in the order of their numbers, so the first of the same ones stays.
        private static void learn(Course course, int v) {
            for (int u = 0; u < course.net.nodes; u++) {
                if (course.net.areNeighbours(v, u) && course.before[0][u] < course.held[0][v]) {
                    course.held[0][v] = course.before[0][u];
                    course.held[1][v] = course.before[1][u] + 1;
                    course.held[2][v] = u;
                }
            }
        }
    }

    /** Algorithm 1. */
    private static final class Ways extends Algorithm {
        boolean takes(Net net, int root) {
            return net.hasNode(root);
        }

        void start(Course course) {
            course.holdEverywhere(NONE, NONE, 0);
            course.held[0][course.root] = 0;
            course.fresh[course.root] = true;
        }

        boolean isOver(Course course) {
            return course.countFreshLetters() == 0;
        }

        int countLetters(Course course) {
            return course.countFreshLetters();
        }

        void change(Course course) {
            for (int v = 0; v < course.net.nodes; v++) {
                shorten(course, v);
            }
        }

        // Neighbours come in the order of their numbers, so the first of the same ones stays.
        private static void shorten(Course course, int v) {
            for (int u = 0; u < course.net.nodes; u++) {
                if (!course.net.areNeighbours(v, u) || course.before[0][u] == NONE) {
                    continue;
                }
                int sum = course.before[0][u] + course.net.weightBetween(u, v);
                if (course.held[0][v] == NONE || sum < course.held[0][v]) {
                    course.held[0][v] = sum;
                    course.held[1][v] = u;
                    course.held[2][v] = course.round;
                }
            }
        }
    }

    /** Algorithm 2. */
    private static final class Sums extends Algorithm {
        boolean takes(Net net, int root) {
            return net.hasNode(root);
        }

        void start(Course course) {
            course.holdEverywhere(NONE, 0, 0);
            course.holdIdentities();
            course.growTree();
            for (int v = 0; v < course.net.nodes; v++) {
                int parent = course.parents[v];
                if (parent != NONE) {
                    course.held[1][parent]++;
                }
            }
        }

        boolean isOver(Course course) {
            return course.before[2][course.root] == 1;
        }

        int countLetters(Course course) {
            int count = 0;
            for (int v = 0; v < course.net.nodes; v++) {
                if (isDue(course, v) && course.parents[v] != NONE) {
                    count++;
                }
            }
            return count;
        }

        void change(Course course) {
            for (int v = 0; v < course.net.nodes; v++) {
                if (isDue(course, v)) {
                    handUp(course, v);
                }
            }
        }

        private static boolean isDue(Course course, int v) {
            return course.before[1][v] == 0 && course.before[2][v] == 0;
        }

        private static void handUp(Course course, int v) {
            course.held[2][v] = 1;
            int parent = course.parents[v];
            if (parent != NONE) {
                course.held[0][parent] += course.before[0][v];
                course.held[1][parent]--;
            }
        }
    }

    /** Algorithm 3. */
    private static final class Colours extends Algorithm {
        private static final int LAST_ROUND = 4;
        private static final int HIGHEST_PLACE = 31;

        boolean takes(Net net, int root) {
            return net.hasNode(root);
        }

        void start(Course course) {
            course.holdEverywhere(NONE, NONE, NONE);
            course.holdIdentities();
            course.growTree();
        }

        boolean isOver(Course course) {
            return course.round >= LAST_ROUND;
        }

        // Each node but the root is the child of one parent.
        int countLetters(Course course) {
            return course.net.nodes - 1;
        }

        void change(Course course) {
            for (int v = 0; v < course.net.nodes; v++) {
                int own = course.before[0][v];
                int parent = course.parents[v];
                int place = parent == NONE ? 0 : lowestDifference(own, course.before[0][parent]);
                course.held[0][v] = 2 * place + ((own >> place) & 1);
            }
        }

        // A node and its parent never hold the same, so the loop ends at a difference.
        private static int lowestDifference(int one, int other) {
            int differences = one ^ other;
            int place = 0;
            while (place < HIGHEST_PLACE && ((differences >> place) & 1) == 0) {
                place++;
            }
            return place;
        }
    }

    /** Algorithm 4. */
    private static final class Chosen extends Algorithm {
        private static final int OPEN = 0;
        private static final int CHOSEN = 1;
        private static final int LEFT_OUT = 2;

        boolean takes(Net net, int root) {
            return true;
        }

        void start(Course course) {
            course.holdEverywhere(OPEN, 0, NONE);
        }

        boolean isOver(Course course) {
            for (int v = 0; v < course.net.nodes; v++) {
                if (course.before[0][v] == OPEN) {
                    return false;
                }
            }
            return true;
        }

        int countLetters(Course course) {
            return course.countLettersAmong(OPEN);
        }

        void change(Course course) {
            for (int v = 0; v < course.net.nodes; v++) {
                if (course.before[0][v] == OPEN) {
                    decide(course, v);
                }
            }
        }

        private static void decide(Course course, int v) {
            if (wins(course, v)) {
                course.held[0][v] = CHOSEN;
                course.held[1][v] = course.round;
            } else if (hasWinnerBeside(course, v)) {
                course.held[0][v] = LEFT_OUT;
                course.held[1][v] = course.round;
            }
        }

        private static boolean wins(Course course, int v) {
            for (int u = 0; u < course.net.nodes; u++) {
                if (course.net.areNeighbours(v, u) && course.before[0][u] == OPEN
                    && course.net.identities[u] >= course.net.identities[v]) {
                    return false;
                }
            }
            return true;
        }

        private static boolean hasWinnerBeside(Course course, int v) {
            for (int u = 0; u < course.net.nodes; u++) {
                if (course.net.areNeighbours(v, u) && course.before[0][u] == OPEN
                    && wins(course, u)) {
                    return true;
                }
            }
            return false;
        }
    }

    /** Algorithm 5. */
    private static final class Pairs extends Algorithm {
        boolean takes(Net net, int root) {
            return true;
        }

        void start(Course course) {
            course.holdEverywhere(NONE, 0, NONE);
        }

        boolean isOver(Course course) {
            return course.countLettersAmong(NONE) == 0;
        }

        int countLetters(Course course) {
            return course.countLettersAmong(NONE);
        }

        void change(Course course) {
            for (int v = 0; v < course.net.nodes; v++) {
                int other = favourite(course, v);
                if (other != NONE && favourite(course, other) == v) {
                    course.held[0][v] = other;
                    course.held[1][v] = course.round;
                }
            }
        }

        /** The free neighbour at the heaviest edge of a free node. */
        private static int favourite(Course course, int v) {
            if (course.before[0][v] != NONE) {
                return NONE;
            }
            int[] edgeTo = course.net.edgeBetween[v];
            int best = NONE;
            for (int u = 0; u < course.net.nodes; u++) {
                if (edgeTo[u] != NONE && course.before[0][u] == NONE
                    && (best == NONE || course.net.isHeavier(edgeTo[u], edgeTo[best]))) {
                    best = u;
                }
            }
            return best;
        }
    }

    /** Algorithm 6. */
    private static final class Core extends Algorithm {
        private static final int OUT = 0;
        private static final int IN = 1;

        boolean takes(Net net, int root) {
            return root >= 1 && root <= MOST_K;
        }

        void start(Course course) {
            course.holdEverywhere(IN, 0, 0);
            for (int v = 0; v < course.net.nodes; v++) {
                course.held[2][v] = course.net.countNeighbours(v);
            }
        }

        boolean isOver(Course course) {
            for (int v = 0; v < course.net.nodes; v++) {
                if (drops(course, v)) {
                    return false;
                }
            }
            return true;
        }

        int countLetters(Course course) {
            int count = 0;
            for (int v = 0; v < course.net.nodes; v++) {
                if (course.fresh[v]) {
                    count += course.countNeighboursWith(v, IN);
                }
            }
            return count;
        }

        void change(Course course) {
            for (int v = 0; v < course.net.nodes; v++) {
                if (course.before[0][v] == IN) {
                    course.held[2][v] = course.countNeighboursWith(v, IN);
                }
                if (drops(course, v)) {
                    course.held[0][v] = OUT;
                    course.held[1][v] = course.round;
                }
            }
        }

        private static boolean drops(Course course, int v) {
            return course.before[0][v] == IN && course.countNeighboursWith(v, IN) < course.root;
        }
    }

    /** Algorithm 7. */
    private static final class Sides extends Algorithm {
        boolean takes(Net net, int root) {
            return net.hasNode(root);
        }

        void start(Course course) {
            course.holdEverywhere(NONE, 0, 0);
            course.held[0][course.root] = 0;
            course.fresh[course.root] = true;
        }

        boolean isOver(Course course) {
            return course.countFreshLetters() == 0;
        }

        int countLetters(Course course) {
            return course.countFreshLetters();
        }

        void change(Course course) {
            for (int v = 0; v < course.net.nodes; v++) {
                for (int u = 0; u < course.net.nodes; u++) {
                    if (course.fresh[v] && course.net.areNeighbours(v, u)) {
                        deliver(course, course.before[0][v], u);
                    }
                }
            }
        }

        private static void deliver(Course course, int side, int u) {
            if (course.before[0][u] == NONE) {
                course.held[0][u] = 1 - side;
                course.held[2][u] = course.round;
            } else if (course.before[0][u] == side) {
                course.held[1][u] = 1;
            }
        }
    }
}

/**
 * A RoundBench that counts its calls: what an object answers behind its 512th call is free, so no
 * test may lean on it.
 */
final class Bench {
    static final int MOST_CALLS = 512;

    private final RoundBench inner = new RoundBench();
    private int calls = 0;

    private RoundBench use() {
        calls++;
        if (calls > MOST_CALLS) {
            throw new IllegalStateException("a test uses one object for more than 512 calls");
        }
        return inner;
    }

    int callsLeft() {
        return MOST_CALLS - calls;
    }

    boolean net(int n) {
        return use().net(n);
    }

    int edge(int a, int b, int weight) {
        return use().edge(a, b, weight);
    }

    boolean identity(int v, int id) {
        return use().identity(v, id);
    }

    int ready() {
        return use().ready();
    }

    boolean choose(int algorithm, int root) {
        return use().choose(algorithm, root);
    }

    int round() {
        return use().round();
    }

    int run(int limit) {
        return use().run(limit);
    }

    boolean finished() {
        return use().finished();
    }

    int rounds() {
        return use().rounds();
    }

    int letters() {
        return use().letters();
    }

    int held(int v, int slot) {
        return use().held(v, slot);
    }
}

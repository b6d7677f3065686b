/** Promise 1: "One node, no edges, not ready, nothing chosen." */
public final class NewObjectTest {
    private static final Checks CHECKS = new Checks();

    public static void main(String[] args) {
        none();
        oneNode();
        noEdges();
        notReady();
        nothingChosen();
        nothingChosenWhenReady();
        objectsAreApart();
        CHECKS.end();
    }

    private static void none() {
        CHECKS.same("NONE", RoundBench.NONE, -1);
    }

    /** "One node": 0 is one, -1 and 1 are none. */
    private static void oneNode() {
        Bench bench = new Bench();
        CHECKS.same("new: identity(-1, 5)", bench.identity(-1, 5), false);
        CHECKS.same("new: identity(1, 5)", bench.identity(1, 5), false);
        CHECKS.same("new: edge(0, 1, 1)", bench.edge(0, 1, 1), -1);
        CHECKS.same("new: edge(1, 0, 1)", bench.edge(1, 0, 1), -1);
        CHECKS.same("new: edge(0, 0, 1)", bench.edge(0, 0, 1), -1);
        CHECKS.same("new: ready()", bench.ready(), 0);
        CHECKS.same("new: choose(1, 1)", bench.choose(1, 1), false);
        CHECKS.same("new: choose(0, 0)", bench.choose(0, 0), true);
        CHECKS.same("new: held(0, 0), its identity", bench.held(0, 0), 1);
        CHECKS.same("new: held(1, 0)", bench.held(1, 0), -2);
        CHECKS.same("new: held(-1, 0)", bench.held(-1, 0), -2);
        Bench other = new Bench();
        CHECKS.same("new: identity(0, 5)", other.identity(0, 5), true);
    }

    /** "no edges": CORE tells how many neighbours the node has. */
    private static void noEdges() {
        Bench bench = Nets.single();
        bench.choose(6, 1);
        CHECKS.same("new: neighbours of node 0", bench.held(0, 2), 0);
    }

    private static void notReady() {
        CHECKS.notReady("new", new Bench());
    }

    private static void nothingChosen() {
        CHECKS.nothingChosen("new", new Bench());
    }

    private static void nothingChosenWhenReady() {
        CHECKS.nothingChosen("new, ready", Nets.single());
    }

    private static void objectsAreApart() {
        Bench bench = Row.chosen(0);
        CHECKS.nothingChosen("an object beside another", new Bench());
        CHECKS.same("the other one: run(50)", bench.run(50), 5);
        Bench twin = Row.chosen(0);
        CHECKS.same("a third one: rounds()", twin.rounds(), 0);
        CHECKS.holds("the other one", bench, Row.LAST[0]);
    }
}

/** Promises 1 to 5: a new object, net, edge, identity, ready. */
public final class NetTest {
    private static final Checks CHECKS = new Checks();

    public static void main(String[] args) {
        newObject();
        netLimits();
        netStartsAnew();
        edgeRefusals();
        edgeNumbers();
        identityRefusals();
        readyAnswers();
        changesMakeUnready();
        refusedCallsKeepTheRun();
        readyKeepsTheRun();
        extremeArguments();
        CHECKS.end();
    }

    private static void nothingChosen(String what, RoundBench bench) {
        CHECKS.same(what + ": round()", bench.round(), -1);
        CHECKS.same(what + ": run(1)", bench.run(1), -1);
        CHECKS.same(what + ": run(0)", bench.run(0), -1);
        CHECKS.same(what + ": finished()", bench.finished(), false);
        CHECKS.same(what + ": rounds()", bench.rounds(), -1);
        CHECKS.same(what + ": letters()", bench.letters(), -1);
        CHECKS.same(what + ": held(0, 0)", bench.held(0, 0), -2);
    }

    private static void newObject() {
        CHECKS.same("NONE", RoundBench.NONE, -1);
        RoundBench bench = new RoundBench();
        nothingChosen("new", bench);
        CHECKS.same("new: choose(0, 0) while not ready", bench.choose(0, 0), false);
        CHECKS.same("new: edge(0, 1, 1)", bench.edge(0, 1, 1), -1);
        CHECKS.same("new: identity(1, 5)", bench.identity(1, 5), false);
        CHECKS.same("new: ready()", bench.ready(), 0);
        nothingChosen("ready", bench);
        CHECKS.same("new: choose(0, 0)", bench.choose(0, 0), true);
        CHECKS.same("new: identity of node 0", bench.held(0, 0), 1);
        CHECKS.same("new: held(1, 0)", bench.held(1, 0), -2);
    }

    private static void netLimits() {
        RoundBench bench = new RoundBench();
        CHECKS.same("net(0)", bench.net(0), false);
        CHECKS.same("net(-1)", bench.net(-1), false);
        CHECKS.same("net(13)", bench.net(13), false);
        CHECKS.same("net(1)", bench.net(1), true);
        CHECKS.same("net(12)", bench.net(12), true);
        CHECKS.same("edge(10, 11, 1) of 12 nodes", bench.edge(10, 11, 1), 0);
        CHECKS.same("edge(11, 12, 1) of 12 nodes", bench.edge(11, 12, 1), -1);
        CHECKS.same("net(3)", bench.net(3), true);
        CHECKS.same("edge(2, 3, 1) of 3 nodes", bench.edge(2, 3, 1), -1);
        CHECKS.same("identity(3, 1) of 3 nodes", bench.identity(3, 1), false);
    }

    private static void netStartsAnew() {
        RoundBench bench = Nets.kite();
        bench.net(4);
        CHECKS.same("edges are gone", bench.ready(), 1);
        CHECKS.same("numbers from 0 on", bench.edge(0, 1, 3), 0);
        bench.edge(1, 2, 3);
        bench.edge(2, 3, 3);
        CHECKS.same("connected anew", bench.ready(), 0);
        bench.choose(0, 0);
        CHECKS.slot("identities as at first", bench, 0, 1, 2, 3, 4);
        bench.net(4);
        CHECKS.same("a net of the same size is new too", bench.ready(), 1);
        bench.net(1);
        CHECKS.same("one node is connected", bench.ready(), 0);
    }

    private static void edgeRefusals() {
        RoundBench bench = new RoundBench();
        bench.net(3);
        CHECKS.same("edge(0, 0, 1)", bench.edge(0, 0, 1), -1);
        CHECKS.same("edge(-1, 0, 1)", bench.edge(-1, 0, 1), -1);
        CHECKS.same("edge(0, -1, 1)", bench.edge(0, -1, 1), -1);
        CHECKS.same("edge(3, 0, 1)", bench.edge(3, 0, 1), -1);
        CHECKS.same("edge(0, 3, 1)", bench.edge(0, 3, 1), -1);
        CHECKS.same("edge(0, 1, 0)", bench.edge(0, 1, 0), -1);
        CHECKS.same("edge(0, 1, 1000)", bench.edge(0, 1, 1000), -1);
        CHECKS.same("edge(0, 1, -5)", bench.edge(0, 1, -5), -1);
        CHECKS.same("edge(0, 1, 999)", bench.edge(0, 1, 999), 0);
        CHECKS.same("edge(0, 1, 5) twice", bench.edge(0, 1, 5), -1);
        CHECKS.same("edge(1, 0, 5) the other way round", bench.edge(1, 0, 5), -1);
        CHECKS.same("edge(2, 1, 1)", bench.edge(2, 1, 1), 1);
        bench.ready();
        bench.choose(1, 0);
        bench.run(9);
        CHECKS.slot("weights that stay", bench, 0, 0, 999, 1000);
    }

    private static void edgeNumbers() {
        RoundBench bench = new RoundBench();
        bench.net(12);
        int made = 0;
        for (int a = 0; a < 12; a++) {
            for (int b = a + 1; b < 12; b++) {
                int due = made < 24 ? made : -1;
                CHECKS.same("edge(" + a + ", " + b + ", 1)", bench.edge(a, b, 1), due);
                made++;
            }
        }
        CHECKS.same("24 edges from 0, 1 and 2 on lead everywhere", bench.ready(), 0);
        CHECKS.same("a 25th one is refused", bench.edge(10, 11, 1), -1);
        CHECKS.same("and leaves the net ready", bench.choose(0, 0), true);
    }

    private static void identityRefusals() {
        RoundBench bench = new RoundBench();
        bench.net(2);
        bench.edge(0, 1, 1);
        CHECKS.same("identity(-1, 5)", bench.identity(-1, 5), false);
        CHECKS.same("identity(2, 5)", bench.identity(2, 5), false);
        CHECKS.same("identity(0, 0)", bench.identity(0, 0), false);
        CHECKS.same("identity(0, 1000)", bench.identity(0, 1000), false);
        CHECKS.same("identity(0, 999)", bench.identity(0, 999), true);
        CHECKS.same("identity(1, 1)", bench.identity(1, 1), true);
        bench.ready();
        bench.choose(0, 0);
        CHECKS.slot("identities", bench, 0, 999, 1);
    }

    private static void readyAnswers() {
        RoundBench bench = new RoundBench();
        bench.net(4);
        bench.edge(0, 1, 1);
        bench.edge(2, 3, 1);
        CHECKS.same("two parts", bench.ready(), 1);
        CHECKS.same("choose() of two parts", bench.choose(0, 0), false);
        bench.identity(3, 1);
        CHECKS.same("two parts before the same identity", bench.ready(), 1);
        bench.edge(3, 0, 1);
        CHECKS.same("the same identity at 0 and 3", bench.ready(), 2);
        CHECKS.same("choose() with the same identity", bench.choose(0, 0), false);
        bench.identity(3, 3);
        CHECKS.same("the same identity at 2 and 3", bench.ready(), 2);
        bench.identity(3, 4);
        CHECKS.same("connected, all different", bench.ready(), 0);
        CHECKS.same("again", bench.ready(), 0);
        bench.net(2);
        CHECKS.same("two nodes without an edge", bench.ready(), 1);
    }

    private static void changesMakeUnready() {
        RoundBench bench = Nets.kite();
        bench.choose(4, 0);
        CHECKS.same("identity() as it is already", bench.identity(0, 50), true);
        nothingChosen("behind identity()", bench);
        CHECKS.same("unready behind identity()", bench.choose(4, 0), false);
        bench.ready();
        nothingChosen("behind identity() and ready()", bench);
        bench.choose(4, 0);
        CHECKS.same("edge(0, 3, 1)", bench.edge(0, 3, 1), 7);
        nothingChosen("behind edge()", bench);
        CHECKS.same("unready behind edge()", bench.choose(4, 0), false);
        bench.ready();
        bench.choose(4, 0);
        bench.net(1);
        nothingChosen("behind net()", bench);
        CHECKS.same("unready behind net()", bench.choose(4, 0), false);
    }

    private static void refusedCallsKeepTheRun() {
        RoundBench bench = Nets.kite();
        bench.choose(2, 0);
        bench.round();
        bench.net(0);
        bench.net(13);
        bench.edge(0, 1, 9);
        bench.edge(0, 3, 0);
        bench.edge(6, 0, 1);
        bench.identity(6, 1);
        bench.identity(0, 0);
        bench.choose(8, 0);
        bench.choose(-1, 0);
        bench.choose(2, 6);
        bench.choose(6, 0);
        bench.run(-1);
        CHECKS.same("rounds() behind refused calls", bench.rounds(), 1);
        CHECKS.same("letters() behind refused calls", bench.letters(), 2);
        CHECKS.slot("slot 0 behind refused calls", bench, 0, 120, 20, 70, 10, 130, 40);
        CHECKS.same("round() behind refused calls", bench.round(), 1);
    }

    private static void readyKeepsTheRun() {
        RoundBench bench = Nets.kite();
        bench.choose(2, 0);
        bench.round();
        CHECKS.same("ready() in a run", bench.ready(), 0);
        CHECKS.same("rounds() behind ready()", bench.rounds(), 1);
        CHECKS.same("run(9) behind ready()", bench.run(9), 4);
        CHECKS.same("the whole sum", bench.held(0, 0), 280);
    }

    private static void extremeArguments() {
        int[] extremes = {Integer.MIN_VALUE, Integer.MIN_VALUE + 1, Integer.MAX_VALUE - 1, Integer.MAX_VALUE};
        RoundBench bench = Nets.kite();
        bench.choose(1, 0);
        for (int x : extremes) {
            CHECKS.same("net(" + x + ")", bench.net(x), false);
            CHECKS.same("edge(" + x + ", 0, 1)", bench.edge(x, 0, 1), -1);
            CHECKS.same("edge(0, " + x + ", 1)", bench.edge(0, x, 1), -1);
            CHECKS.same("edge(0, 3, " + x + ")", bench.edge(0, 3, x), -1);
            CHECKS.same("identity(" + x + ", 1)", bench.identity(x, 1), false);
            CHECKS.same("identity(0, " + x + ")", bench.identity(0, x), false);
            CHECKS.same("choose(" + x + ", 0)", bench.choose(x, 0), false);
            CHECKS.same("choose(1, " + x + ")", bench.choose(1, x), false);
            CHECKS.same("held(" + x + ", 0)", bench.held(x, 0), -2);
            CHECKS.same("held(0, " + x + ")", bench.held(0, x), -2);
        }
        CHECKS.same("rounds() behind all that", bench.rounds(), 0);
    }
}

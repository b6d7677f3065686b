/** Promise 4, identity, and "Each node v has an IDENTITY, 1 .. 999" of the terms. */
public final class IdentityTest {
    private static final Checks CHECKS = new Checks();

    public static void main(String[] args) {
        atFirst();
        nodes();
        bounds();
        extremeArguments();
        theLatestStays();
        sameOneTwice();
        asItIsAlready();
        makesUnready();
        refusedKeepsThem();
        CHECKS.end();
    }

    /** "it is v + 1 at first" */
    private static void atFirst() {
        Bench bench = Nets.full();
        bench.choose(0, 0);
        CHECKS.slot("identities at first", bench, 0, 1, 2, 3, 4, 5, 6, 7, 8, 9, 10, 11, 12);
    }

    /** "false when there is none such": nodes -1, 0, N - 1, N. */
    private static void nodes() {
        Bench bench = new Bench();
        bench.net(3);
        CHECKS.same("identity(-1, 5)", bench.identity(-1, 5), false);
        CHECKS.same("identity(0, 5)", bench.identity(0, 5), true);
        CHECKS.same("identity(2, 6)", bench.identity(2, 6), true);
        CHECKS.same("identity(3, 7)", bench.identity(3, 7), false);
        CHECKS.same("identity(11, 7)", bench.identity(11, 7), false);
        CHECKS.same("identity(12, 7)", bench.identity(12, 7), false);
        bench.net(12);
        CHECKS.same("of twelve: identity(11, 7)", bench.identity(11, 7), true);
        CHECKS.same("of twelve: identity(12, 7)", bench.identity(12, 7), false);
    }

    /** "or it is not 1 .. 999" */
    private static void bounds() {
        Bench bench = Nets.path(4);
        CHECKS.same("identity(0, -1)", bench.identity(0, -1), false);
        CHECKS.same("identity(0, 0)", bench.identity(0, 0), false);
        CHECKS.same("identity(0, 1)", bench.identity(0, 1), true);
        CHECKS.same("identity(1, 2)", bench.identity(1, 2), true);
        CHECKS.same("identity(2, 998)", bench.identity(2, 998), true);
        CHECKS.same("identity(3, 999)", bench.identity(3, 999), true);
        CHECKS.same("identity(3, 1000)", bench.identity(3, 1000), false);
        CHECKS.same("identity(3, 1001)", bench.identity(3, 1001), false);
        CHECKS.same("ready()", bench.ready(), 0);
        bench.choose(0, 0);
        CHECKS.slot("identities", bench, 0, 1, 2, 998, 999);
    }

    private static void extremeArguments() {
        Bench bench = Row.chosen(0);
        for (int x : new int[] {Integer.MIN_VALUE, Integer.MIN_VALUE + 1, -65536, 65536, 65537,
            Integer.MAX_VALUE - 1, Integer.MAX_VALUE}) {
            CHECKS.same("identity(" + x + ", 1)", bench.identity(x, 1), false);
            CHECKS.same("identity(0, " + x + ")", bench.identity(0, x), false);
            CHECKS.same("identity(" + x + ", " + x + ")", bench.identity(x, x), false);
        }
        CHECKS.holds("behind all that", bench, Row.FIRST[0]);
    }

    private static void theLatestStays() {
        Bench bench = Nets.path(2);
        bench.identity(1, 40);
        bench.identity(1, 30);
        bench.ready();
        bench.choose(0, 0);
        CHECKS.slot("the latest identity", bench, 0, 1, 30);
    }

    /** Two nodes may have the same one, until ready() is asked. */
    private static void sameOneTwice() {
        Bench bench = Nets.path(2);
        CHECKS.same("identity(1, 1) beside node 0 with 1", bench.identity(1, 1), true);
        CHECKS.same("ready() of twins", bench.ready(), 2);
        CHECKS.same("identity(0, 2)", bench.identity(0, 2), true);
        CHECKS.same("ready() of 2 and 1", bench.ready(), 0);
    }

    /** Not refused, so it makes the net unready. */
    private static void asItIsAlready() {
        Bench bench = Row.chosen(0);
        CHECKS.same("identity(0, 50) as it is", bench.identity(0, 50), true);
        CHECKS.nothingChosen("behind it", bench);
        CHECKS.notReady("behind it", bench);
    }

    private static void makesUnready() {
        for (int algorithm = 0; algorithm < Row.ALGORITHMS; algorithm++) {
            Bench bench = Row.chosen(algorithm);
            bench.round();
            CHECKS.same(algorithm + ": identity(0, 7)", bench.identity(0, 7), true);
            CHECKS.nothingChosen(algorithm + " behind identity()", bench);
            CHECKS.notReady(algorithm + " behind identity()", bench);
            CHECKS.same(algorithm + " behind identity(): ready()", bench.ready(), 0);
            CHECKS.nothingChosen(algorithm + " behind identity() and ready()", bench);
        }
    }

    private static void refusedKeepsThem() {
        for (int[] call : new int[][] {{-1, 7}, {5, 7}, {0, 0}, {4, 1000}}) {
            Bench bench = Row.ready();
            String what = "identity(" + call[0] + ", " + call[1] + ")";
            CHECKS.same(what, bench.identity(call[0], call[1]), false);
            CHECKS.same(what + ": choose(0, 0) behind it", bench.choose(0, 0), true);
            CHECKS.holds(what + " behind it", bench, Row.FIRST[0]);
        }
    }
}

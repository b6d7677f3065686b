/** Algorithm 3, COLOURS, by promises 7 and 9 to 12. */
public final class ColoursTest {
    private static final Checks CHECKS = new Checks();

    public static void main(String[] args) {
        kite();
        placesOfOneDifference();
        lowestOfSeveral();
        highestPlace();
        greatestIdentities();
        rootKeepsItsLowestBit();
        fourRounds();
        leastNumberedParent();
        single();
        CHECKS.end();
    }

    private static int[][] colours(int... slotZero) {
        int[][] rows = new int[slotZero.length][];
        for (int v = 0; v < slotZero.length; v++) {
            rows[v] = new int[] {slotZero[v], -1, -1};
        }
        return rows;
    }

    private static Bench path(int... ids) {
        Bench bench = Nets.path(ids.length);
        Nets.identities(bench, ids);
        bench.ready();
        return bench;
    }

    private static void kite() {
        Bench bench = Nets.kite();
        bench.choose(3, 0);
        CHECKS.round("round 1", bench, 5, colours(0, 2, 5, 3, 9, 2));
        CHECKS.round("round 2", bench, 5, colours(0, 3, 1, 1, 2, 0));
        CHECKS.round("round 3", bench, 5, colours(0, 1, 1, 2, 0, 2));
        CHECKS.round("round 4", bench, 5, colours(0, 1, 1, 0, 2, 3));
        CHECKS.over("kite", bench, 4, 20, colours(0, 1, 1, 0, 2, 3));
    }

    /** 1024 is above all identities, so places 0 to 9 are all there are; b is its own bit. */
    private static void placesOfOneDifference() {
        for (int place = 1; place <= 9; place++) {
            Bench bench = path(1, 1 + (1 << place));
            bench.choose(3, 0);
            CHECKS.round("bit " + place + " at the child", bench, 1, colours(1, 2 * place + 1));
            bench.choose(3, 1);
            CHECKS.round("bit " + place + " at the root", bench, 1, colours(2 * place, 1));
        }
        Bench bench = path(2, 3);
        bench.choose(3, 0);
        CHECKS.round("bit 0 at the child", bench, 1, colours(0, 1));
        bench.choose(3, 1);
        CHECKS.round("bit 0 at the root", bench, 1, colours(0, 1));
    }

    /** 6 is 110 and 3 is 011; 12 is 1100 and 2 is 0010. */
    private static void lowestOfSeveral() {
        Bench bench = path(3, 6);
        bench.choose(3, 0);
        CHECKS.round("places 0 and 2", bench, 1, colours(1, 0));
        bench = path(12, 2);
        bench.choose(3, 0);
        CHECKS.round("places 1, 2 and 3", bench, 1, colours(0, 3));
    }

    private static void highestPlace() {
        Bench bench = path(1, 513, 257);
        bench.choose(3, 0);
        CHECKS.round("places 9 and 8", bench, 2, colours(1, 19, 17));
        CHECKS.round("then 19 beside 1 and 17 beside 19", bench, 2, colours(1, 3, 2));
    }

    private static void greatestIdentities() {
        Bench bench = path(999, 487);
        bench.choose(3, 0);
        CHECKS.round("487 beside 999", bench, 1, colours(1, 18));
        bench.choose(3, 1);
        CHECKS.round("999 beside 487", bench, 1, colours(19, 1));
    }

    private static void rootKeepsItsLowestBit() {
        for (int id : new int[] {2, 4, 512, 998}) {
            Bench bench = path(id, 1);
            bench.choose(3, 0);
            for (int round = 1; round <= 4; round++) {
                bench.round();
                CHECKS.slot("root with " + id, bench, 0, 0);
            }
        }
        for (int id : new int[] {1, 3, 513, 999}) {
            Bench bench = path(id, 2);
            bench.choose(3, 0);
            for (int round = 1; round <= 4; round++) {
                bench.round();
                CHECKS.slot("root with " + id, bench, 0, 1);
            }
        }
    }

    /** "Finished behind four rounds": not behind three, and not sooner if nothing changes. */
    private static void fourRounds() {
        Bench bench = Nets.path(12);
        bench.choose(3, 0);
        for (int round = 1; round <= 4; round++) {
            CHECKS.same("finished() before round " + round, bench.finished(), false);
            CHECKS.same("round() " + round, bench.round(), 11);
        }
        CHECKS.same("finished() behind four", bench.finished(), true);
        CHECKS.same("round() 5", bench.round(), -1);
        CHECKS.same("letters()", bench.letters(), 44);
        Bench still = path(2, 1);
        still.choose(3, 0);
        for (int round = 1; round <= 4; round++) {
            CHECKS.round("nothing changes", still, 1, colours(0, 1));
        }
        CHECKS.over("nothing changes", still, 4, 4, colours(0, 1));
    }

    /** Node 4 looks at 1, not at 2 or 3, which are as near to the root. */
    private static void leastNumberedParent() {
        Bench bench = new Bench();
        bench.net(5);
        Nets.edges(bench, new int[][] {{3, 4, 9}, {3, 0, 9}, {2, 4, 5}, {2, 0, 5}, {1, 4, 1}, {1, 0, 1}});
        Nets.identities(bench, 16, 8, 1, 2, 24);
        bench.ready();
        bench.choose(3, 0);
        CHECKS.round("16 is where 24 and 8 differ", bench, 4, colours(0, 7, 1, 3, 9));
    }

    private static void single() {
        Bench bench = Nets.single();
        bench.identity(0, 998);
        bench.ready();
        bench.choose(3, 0);
        for (int round = 1; round <= 4; round++) {
            CHECKS.round("one node", bench, 0, colours(0));
        }
        CHECKS.over("one node", bench, 4, 0, colours(0));
    }
}

/** Promise 8: rows, KEY and VALUES of a PAIR, and the order in which PAIRS come. */
final class Promise08PairTest {
    public static void main(String[] args) {
        Due due = new Due("promise 8");
        JoinBench parted = Due.everyKind();
        parted.join();
        pairs(due, "parted", parted, new int[][] {
            {1, 0, 0, 11, 20}, {0, 2, 1, 10, 22}, {0, 3, 1, 10, 23}, {2, 1, 2, 12, 21}});
        wrongInputs(due, parted);
        withinMemory(due);
        byBlocks(due);
        due.end();
    }

    private static void pairs(Due due, String name, JoinBench bench, int[][] want) {
        for (int i = 0; i < want.length; i++) {
            for (int what = 0; what < want[i].length; what++) {
                due.is(name + ": pair(" + i + ", " + what + ")", bench.pair(i, what), want[i][what]);
            }
        }
        due.is(name + ": one more", bench.pair(want.length, 0), JoinBench.BAD);
    }

    private static void wrongInputs(Due due, JoinBench bench) {
        int[] none = {-1, 4, 4000, Integer.MIN_VALUE, Integer.MAX_VALUE};
        for (int i : none) {
            due.is("pair(" + i + ", 0)", bench.pair(i, 0), JoinBench.BAD);
        }
        int[] others = {-1, 5, Integer.MIN_VALUE, Integer.MAX_VALUE};
        for (int what : others) {
            due.is("pair(0, " + what + ")", bench.pair(0, what), JoinBench.BAD);
        }
    }

    /** The lesser one in pages is held, LEFT if they have as many, though it have more rows. */
    private static void withinMemory(Due due) {
        JoinBench bench = new JoinBench();
        Due.rows(bench, 0, 10, 3, 4, 3);
        Due.rows(bench, 1, 20, 3, 3);
        bench.join();
        pairs(due, "LEFT held", bench, new int[][] {
            {0, 0, 3, 10, 20}, {2, 0, 3, 12, 20}, {0, 1, 3, 10, 21}, {2, 1, 3, 12, 21}});
        bench.size(0, 2);
        bench.join();
        pairs(due, "RIGHT held", bench, new int[][] {
            {0, 0, 3, 10, 20}, {0, 1, 3, 10, 21}, {2, 0, 3, 12, 20}, {2, 1, 3, 12, 21}});
    }

    /** Blocks of two rows: RIGHT 0, 1 with all of LEFT, then RIGHT 2. */
    private static void byBlocks(Due due) {
        JoinBench bench = Due.bench(2, 3, 0);
        Due.rows(bench, 0, 10, 6, 7, 6, 8, 9);
        Due.rows(bench, 1, 20, 6, 8, 6);
        bench.join();
        pairs(due, "RIGHT by blocks", bench, new int[][] {
            {0, 0, 6, 10, 20}, {2, 0, 6, 12, 20}, {3, 1, 8, 13, 21},
            {0, 2, 6, 10, 22}, {2, 2, 6, 12, 22}});
        bench.cut(0, 1);
        bench.join();
        pairs(due, "LEFT by blocks", bench, new int[][] {
            {0, 0, 6, 10, 20}, {0, 2, 6, 10, 22}, {2, 0, 6, 12, 20},
            {3, 1, 8, 13, 21}, {2, 2, 6, 12, 22}});
    }
}

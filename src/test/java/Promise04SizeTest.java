/** Promise 4: PER, MEMORY and PARTINGS become n, each within its limits. */
final class Promise04SizeTest {
    private static final int[] LEAST = {1, 3, 0};
    private static final int[] MOST = {16, 20, 8};
    private static final int[] AT_FIRST = {4, 5, 4};

    public static void main(String[] args) {
        Due due = new Due("promise 4");
        for (int what = 0; what < 3; what++) {
            limits(due, what);
        }
        JoinBench bench = new JoinBench();
        int[] others = {-1, 3, 4, Integer.MIN_VALUE, Integer.MAX_VALUE};
        for (int what : others) {
            due.is("size(" + what + ", 4)", bench.size(what, 4), JoinBench.BAD);
        }
        sizesAreApart(due);
        theyRuleTheJoin(due);
        due.end();
    }

    private static void limits(Due due, int what) {
        JoinBench bench = new JoinBench();
        String call = "size(" + what + ", ";
        due.is(call + "least)", bench.size(what, LEAST[what]), AT_FIRST[what]);
        due.is(call + "least - 1)", bench.size(what, LEAST[what] - 1), JoinBench.BAD);
        due.is(call + "most)", bench.size(what, MOST[what]), LEAST[what]);
        due.is(call + "most + 1)", bench.size(what, MOST[what] + 1), JoinBench.BAD);
        due.is(call + "-1)", bench.size(what, -1), JoinBench.BAD);
        due.is(call + "least int)", bench.size(what, Integer.MIN_VALUE), JoinBench.BAD);
        due.is(call + "most int)", bench.size(what, Integer.MAX_VALUE), JoinBench.BAD);
        due.is(call + "4)", bench.size(what, 4), MOST[what]);
        due.is(call + "4) again", bench.size(what, 4), 4);
    }

    private static void sizesAreApart(Due due) {
        JoinBench bench = Due.bench(7, 6, 5);
        due.is("PER was", bench.size(0, 1), 7);
        due.is("MEMORY was", bench.size(1, 3), 6);
        due.is("PARTINGS was", bench.size(2, 0), 5);
    }

    private static void theyRuleTheJoin(Due due) {
        JoinBench bench = new JoinBench();
        Due.rows(bench, 0, 0, 1, 2, 3, 4, 5, 6, 7, 8);
        Due.rows(bench, 1, 0, 1, 2, 3, 4, 5, 6, 7, 8, 9);
        due.is("join() of 2 and 3 pages in 5", bench.join(), 8);
        due.is("within memory", bench.event(0, 0), 1);
        bench.size(1, 3);
        bench.join();
        due.is("parted in 3 pages", bench.event(0, 0), 3);
        bench.size(2, 0);
        bench.join();
        due.is("by blocks with no partings", bench.event(0, 0), 2);
        bench.size(0, 8);
        bench.join();
        due.is("within memory with 8 rows a page", bench.event(0, 0), 1);
        bench.size(0, 7);
        bench.join();
        due.is("by blocks with 7 rows a page", bench.event(0, 0), 2);
    }
}

/** Promise 9: what is told of the latest join. */
final class Promise09ToldTest {
    public static void main(String[] args) {
        Due due = new Due("promise 9");
        JoinBench bench = Due.everyKind();
        bench.join();
        told(due, "every kind", bench, 22, 12, 3, 10, 2, 5, 1, 1, 1, 2, 4);
        int[] others = {-1, 11, Integer.MIN_VALUE, Integer.MAX_VALUE};
        for (int what : others) {
            due.is("told(" + what + ")", bench.told(what), JoinBench.BAD);
        }
        memoryIsOfTheLesserOne(due);
        memoryOfAllButTheRows(due);
        blocksOfOneKey(due);
        theMostIsNotTheLast(due);
        pagesNotRowsAreWritten(due);
        morePairsThanThereMayBe(due);
        moreEventsThanAreTold(due);
        due.end();
    }

    private static void told(Due due, String name, JoinBench bench, int... want) {
        for (int what = 0; what < want.length; what++) {
            due.is(name + ": told(" + what + ")", bench.told(what), want[what]);
        }
    }

    private static void memoryIsOfTheLesserOne(Due due) {
        JoinBench bench = new JoinBench();
        Due.sameKey(bench, 0, 1, 20);
        Due.sameKey(bench, 1, 1, 5);
        bench.join();
        told(due, "5 and 2 pages", bench, 7, 0, 4, 0, 0, 1, 0, 1, 0, 0, 100);
        bench.cut(1, 4);
        bench.join();
        told(due, "5 and 1 pages", bench, 6, 0, 3, 0, 0, 1, 0, 1, 0, 0, 20);
        bench.cut(1, 1);
        bench.join();
        told(due, "5 and no pages", bench, 0, 0, 0, 0, 0, 1, 1, 0, 0, 0, 0);
    }

    /** A lesser one of MEMORY less 2 pages is within memory; a row more is not. */
    private static void memoryOfAllButTheRows(Due due) {
        JoinBench bench = new JoinBench();
        Due.sameKey(bench, 0, 1, 12);
        Due.sameKey(bench, 1, 1, 13);
        bench.join();
        told(due, "3 and 4 pages", bench, 7, 0, 5, 0, 0, 1, 0, 1, 0, 0, 156);
        bench.row(0, 1, 1);
        bench.join();
        told(due, "4 and 4 pages", bench, 4 + 2 * 4, 0, 5, 0, 0, 1, 0, 0, 1, 0, 169);
    }

    private static void blocksOfOneKey(Due due) {
        JoinBench bench = Due.bench(2, 4, 8);
        Due.sameKey(bench, 0, 5, 20);
        Due.sameKey(bench, 1, 5, 9);
        bench.join();
        told(due, "10 and 5 pages", bench, 5 + 3 * 10, 0, 4, 0, 0, 1, 0, 0, 1, 0, 180);
    }

    /**
     * With 2 parts keys 5, 7, 8 go to part 0 at level 0 and together to part 1 at level 1; keys
     * 1, 2 go to part 1, then to part 0. With 3 parts keys 0, 4, 7 go to parts 0, 2, 1.
     */
    private static void theMostIsNotTheLast(Due due) {
        JoinBench bench = Due.bench(1, 3, 2);
        Due.rows(bench, 0, 0, 5, 7, 8, 1, 2);
        Due.rows(bench, 1, 0, 5, 7, 8, 1, 2);
        bench.join();
        told(due, "disk: 10, 16, 8", bench, 10 + 6 + 12 + 4 + 6, 20, 3, 16, 2, 7, 2, 0, 2, 3, 5);
        bench.cut(0, 5);
        bench.cut(1, 5);
        Due.rows(bench, 0, 0, 5, 7, 1);
        Due.rows(bench, 1, 0, 5, 7, 1);
        bench.join();
        told(due, "levels: 2, then 1", bench, 6 + 4 + 6 + 2, 10, 3, 10, 2, 5, 1, 1, 1, 2, 3);
        JoinBench wider = Due.bench(1, 4, 2);
        Due.rows(wider, 0, 0, 0, 4, 7);
        Due.rows(wider, 1, 0, 0, 4, 7);
        wider.join();
        told(due, "memory: 4, then 3", wider, 6 + 3 * 2, 6, 4, 6, 1, 4, 0, 3, 0, 1, 3);
    }

    /** Key 0 goes to part 0, keys 1, 2, 3 to part 1: 1 and 2 pages of what was 2. */
    private static void pagesNotRowsAreWritten(Due due) {
        JoinBench bench = Due.bench(2, 3, 1);
        Due.rows(bench, 0, 0, 0, 1, 2, 3);
        Due.rows(bench, 1, 0, 0, 1, 2, 3);
        bench.join();
        told(due, "2 and 2 pages", bench, 4 + 2 + 6, 6, 3, 6, 1, 3, 0, 1, 1, 1, 4);
    }

    private static void morePairsThanThereMayBe(Due due) {
        JoinBench bench = new JoinBench();
        Due.sameKey(bench, 0, 5, 240);
        Due.sameKey(bench, 1, 5, 241);
        due.is("join()", bench.join(), JoinBench.FULL);
        told(due, "60 and 61 pages", bench, 60 + 20 * 61, 0, 5, 0, 0, 1, 0, 0, 1, 0, 240 * 241);
    }

    private static void moreEventsThanAreTold(Due due) {
        JoinBench bench = Due.manyEvents();
        due.is("join()", bench.join(), 240);
        due.is("more than 300 events", bench.told(5) > 300 ? 1 : 0, 1);
        due.is("each parting makes two", bench.told(5), 2 * bench.told(9) + 1);
        int ofAKind = bench.told(6) + bench.told(7) + bench.told(8) + bench.told(9);
        due.is("each is of a kind", ofAKind, bench.told(5));
        due.is("the deepest", bench.told(4), 8);
    }
}

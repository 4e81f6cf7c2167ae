/** Terms: where one kind of EVENT ends and the next begins, and which side is held. */
final class BoundaryTermsKindsTest {
    private static final String TERMS = "Terms";
    private static final int NOTHING = 0;
    private static final int WITHIN_MEMORY = 1;
    private static final int BY_BLOCKS = 2;
    private static final int PARTED = 3;

    private final Boundary due = new Boundary("boundaries of the kinds");

    public static void main(String[] args) {
        BoundaryTermsKindsTest test = new BoundaryTermsKindsTest();
        test.nothing();
        test.nothingInAPart();
        test.withinMemoryAtMost();
        test.heldWithinMemory();
        test.everyPairOfAKey();
        test.readAndMemoryWithinMemory();
        test.levelOfPartings();
        test.oneKey();
        test.heldByBlocks();
        test.lastBlock();
        test.readByBlocks();
        test.pairsOfBlocks();
        test.memoryOfBlocks();
        test.due.end();
    }

    private void nothing() {
        due.by(TERMS, "0 NOTHING: one of them has no rows.");
        Bench bench = Bench.smallest(0);
        bench.join();
        due.event("0 and 0 rows", bench, 0, NOTHING, 0, 0, 0, 0);
        bench.row(0, 1, 1);
        bench.join();
        due.event("1 and 0 rows", bench, 0, NOTHING, 0, 1, 0, 0);
        bench.row(1, 2, 1);
        bench.join();
        due.event("1 and 1 rows", bench, 0, WITHIN_MEMORY, 0, 1, 1, 2);
        bench.cut(0, 1);
        bench.join();
        due.event("0 and 1 rows", bench, 0, NOTHING, 0, 0, 1, 0);
        bench.sameKey(1, 2, 400);
        bench.join();
        due.told("0 and 401 rows", bench, 0, 0, 0, 0, 0, 1, 1, 0, 0, 0, 0);
    }

    /** With 2 parts key 0 goes to part 0 and key 1 to part 1, so neither part has rows of both. */
    private void nothingInAPart() {
        due.by(TERMS, "0 NOTHING: one of them has no rows.");
        Bench bench = Bench.smallest(1).rows(0, 0, 0, 0).rows(1, 1, 1);
        due.is("join()", bench.join(), 0);
        due.event("the tables", bench, 0, PARTED, 0, 3, 2, 5);
        due.event("part 0", bench, 1, NOTHING, 1, 3, 0, 0);
        due.event("part 1", bench, 2, NOTHING, 1, 0, 2, 0);
        due.told("nothing in both parts", bench, 5, 5, 3, 5, 1, 3, 2, 0, 0, 1, 0);
        bench.row(1, 0, 0);
        due.is("join() with a row in part 0", bench.join(), 3);
        due.event("part 0 with a row", bench, 1, WITHIN_MEMORY, 1, 3, 1, 4);
    }

    private void withinMemoryAtMost() {
        due.by(TERMS, "1 WITHIN MEMORY: the one with fewer PAGES (LEFT, if they have as many)"
            + " has at most MEMORY less 2");
        int[][] sizes = {{2, 4, 4}, {1, 3, 0}, {1, 20, 4}, {16, 5, 0}};
        for (int[] size : sizes) {
            int fits = size[0] * (size[1] - 2);
            int beyond = size[2] == 0 ? BY_BLOCKS : PARTED;
            for (int lesser = 0; lesser < 2; lesser++) {
                Bench bench = Bench.of(size[0], size[1], size[2]);
                bench.keys(lesser, 0, fits - 1).keys(1 - lesser, 0, fits + 40);
                String name = "table " + lesser + " of " + size[0] + " a page in " + size[1] + ": ";
                bench.join();
                due.is(name + "a row less", bench.event(0, 0), fits == 1 ? NOTHING : WITHIN_MEMORY);
                bench.row(lesser, fits - 1, 0);
                due.is(name + "all that fit", bench.join(), fits);
                due.is(name + "all that fit", bench.event(0, 0), WITHIN_MEMORY);
                bench.row(lesser, fits, 0);
                due.is(name + "a row more", bench.join(), fits + 1);
                due.is(name + "a row more", bench.event(0, 0), beyond);
            }
        }
        Bench oneKey = Bench.of(2, 4, 8).sameKey(0, 5, 4).sameKey(1, 5, 9);
        oneKey.join();
        due.is("4 rows of one key", oneKey.event(0, 0), WITHIN_MEMORY);
        oneKey.row(0, 5, 5);
        oneKey.join();
        due.is("5 rows of one key", oneKey.event(0, 0), BY_BLOCKS);
    }

    /** The rows of what is held change first: LEFT's if its PAGES are fewer or as many. */
    private void heldWithinMemory() {
        due.by(TERMS, "the one with fewer PAGES (LEFT, if they have as many)");
        Bench bench = Bench.of(2, 5, 4).sameKey(0, 5, 2).sameKey(1, 5, 3);
        bench.join();
        due.pair("1 and 2 pages", bench, 1, 1, 0);
        bench.sameKey(0, 5, 2);
        bench.join();
        due.pair("2 and 2 pages, 4 and 3 rows", bench, 1, 1, 0);
        bench.row(0, 5, 5);
        bench.join();
        due.pair("3 and 2 pages", bench, 1, 0, 1);
        bench.sameKey(1, 5, 3);
        bench.join();
        due.pair("3 and 3 pages, 5 and 6 rows", bench, 1, 1, 0);
    }

    private void everyPairOfAKey() {
        due.by(TERMS, "for each row of the other one, in order, the rows in memory with its key, in order,"
            + " make a PAIR each");
        Bench bench = new Bench().rows(0, 8, 9, 8).rows(1, 9, 8, 7, 8);
        due.is("join()", bench.join(), 5);
        int[][] want = {{1, 0}, {0, 1}, {2, 1}, {0, 3}, {2, 3}};
        for (int i = 0; i < want.length; i++) {
            due.pair("LEFT held", bench, i, want[i][0], want[i][1]);
        }
        due.is("one more", bench.pair(5, 0), JoinBench.BAD);
        Bench ends = new Bench().rows(0, Integer.MIN_VALUE, 0, -1).rows(1, Integer.MAX_VALUE, 1, -2);
        due.is("keys that are near, or far by 2^32 - 1", ends.join(), 0);
    }

    private void readAndMemoryWithinMemory() {
        due.by(TERMS, "READ are the PAGES of both; it takes as many pages of memory as the lesser one and 2.");
        Bench bench = Bench.of(3, 4, 4).keys(0, 0, 1).keys(1, 0, 7);
        bench.join();
        due.told("1 and 3 pages", bench, 4, 0, 3, 0, 0, 1);
        bench.keys(0, 1, 3);
        bench.join();
        due.told("1 full and 3 pages", bench, 4, 0, 3, 0, 0, 1);
        bench.keys(0, 3, 4);
        bench.join();
        due.told("2 and 3 pages", bench, 5, 0, 4, 0, 0, 1);
        bench.keys(0, 4, 10);
        bench.cut(1, 4);
        bench.join();
        due.told("4 and 1 pages", bench, 5, 0, 3, 0, 0, 1);
    }

    /** With 2 parts keys 0 and 34 go to the same part at each of the levels 0 .. 7. */
    private void levelOfPartings() {
        due.by(TERMS, "2 BY BLOCKS: the level is that of PARTINGS");
        Bench bench = Bench.smallest(0).rows(0, 0, 34).rows(1, 0, 34);
        bench.join();
        due.event("PARTINGS 0, level 0", bench, 0, BY_BLOCKS, 0, 2, 2, 6);
        due.is("no more", bench.event(1, 0), JoinBench.BAD);
        bench.size(2, 1);
        bench.join();
        due.event("PARTINGS 1, level 0", bench, 0, PARTED, 0, 2, 2, 4);
        due.event("PARTINGS 1, level 1", bench, 1, BY_BLOCKS, 1, 2, 2, 6);
        due.event("PARTINGS 1, level 1", bench, 2, NOTHING, 1, 0, 0, 0);
        bench.size(2, 8);
        bench.join();
        due.event("PARTINGS 8, level 7", bench, 11, PARTED, 7, 2, 2, 4);
        due.event("PARTINGS 8, level 8", bench, 12, BY_BLOCKS, 8, 2, 2, 6);
        due.event("PARTINGS 8, level 8", bench, 13, NOTHING, 8, 0, 0, 0);
    }

    private void oneKey() {
        due.by(TERMS, "or all rows of both have one key");
        due.is("all with one", kindOf(new int[] {7, 7, 7}, new int[] {7, 7, 7}), BY_BLOCKS);
        due.is("LEFT's first", kindOf(new int[] {8, 7, 7}, new int[] {7, 7, 7}), PARTED);
        due.is("LEFT's middle", kindOf(new int[] {7, 8, 7}, new int[] {7, 7, 7}), PARTED);
        due.is("LEFT's last", kindOf(new int[] {7, 7, 8}, new int[] {7, 7, 7}), PARTED);
        due.is("RIGHT's first", kindOf(new int[] {7, 7, 7}, new int[] {8, 7, 7}), PARTED);
        due.is("RIGHT's middle", kindOf(new int[] {7, 7, 7}, new int[] {7, 8, 7}), PARTED);
        due.is("RIGHT's last", kindOf(new int[] {7, 7, 7}, new int[] {7, 7, 8}), PARTED);
        due.is("one of LEFT, one of RIGHT", kindOf(new int[] {7, 7, 7}, new int[] {8, 8, 8}), PARTED);
        due.is("-1, as BAD", kindOf(new int[] {-1, -1}, new int[] {-1, -1}), BY_BLOCKS);
        due.is("0 and -1", kindOf(new int[] {0, 0}, new int[] {0, -1}), PARTED);
        due.is("the least and the most", kindOf(new int[] {Integer.MIN_VALUE, Integer.MIN_VALUE},
            new int[] {Integer.MIN_VALUE, Integer.MAX_VALUE}), PARTED);
    }

    private static int kindOf(int[] left, int[] right) {
        Bench bench = Bench.smallest(1).rows(0, left).rows(1, right);
        bench.join();
        return bench.event(0, 0);
    }

    /** Pages of 2 rows, blocks of a page. */
    private void heldByBlocks() {
        due.by(TERMS, "the one with fewer PAGES (LEFT, if they have as many) is gone through by blocks");
        Bench bench = Bench.of(2, 3, 0).sameKey(0, 5, 4).sameKey(1, 5, 5);
        bench.join();
        due.pair("2 and 3 pages", bench, 1, 1, 0);
        due.is("2 and 3 pages: READ", bench.told(0), 2 + 2 * 3);
        bench.cut(1, 2);
        bench.join();
        due.pair("2 and 2 pages, 4 and 3 rows", bench, 1, 1, 0);
        due.is("2 and 2 pages: READ", bench.told(0), 2 + 2 * 2);
        bench.row(0, 5, 5);
        bench.join();
        due.pair("3 and 2 pages", bench, 1, 0, 1);
        due.is("3 and 2 pages: READ", bench.told(0), 2 + 2 * 3);
    }

    /** Pages of 2 rows, blocks of 2 pages; RIGHT has 10 pages. */
    private void lastBlock() {
        due.by(TERMS, "by blocks of MEMORY less 2 pages (the last one perhaps less)");
        int[] rows = {5, 6, 7, 8, 9, 12, 13};
        int[] pages = {3, 3, 4, 4, 5, 6, 7};
        int[] blocks = {2, 2, 2, 2, 3, 3, 4};
        for (int i = 0; i < rows.length; i++) {
            Bench bench = Bench.of(2, 4, 0).sameKey(0, 5, rows[i]).sameKey(1, 5, 20);
            due.is("join() of " + rows[i] + " rows", bench.join(), 20 * rows[i]);
            due.event(rows[i] + " rows", bench, 0, BY_BLOCKS, 0, rows[i], 20, pages[i] + blocks[i] * 10);
        }
        Bench within = Bench.of(2, 4, 0).sameKey(0, 5, 4).sameKey(1, 5, 20);
        within.join();
        due.event("4 rows, which are no blocks", within, 0, WITHIN_MEMORY, 0, 4, 20, 2 + 10);
    }

    /** Pages of 2 rows, blocks of 2 pages; LEFT has 5 rows, 3 pages, 2 blocks. */
    private void readByBlocks() {
        due.by(TERMS, "READ are its PAGES, and for each block those of the other one");
        Bench bench = Bench.of(2, 4, 0).sameKey(0, 5, 5).sameKey(1, 5, 6);
        bench.join();
        due.told("3 and 3 pages", bench, 3 + 2 * 3, 0, 4, 0, 0, 1, 0, 0, 1, 0, 30);
        bench.row(1, 5, 5);
        bench.join();
        due.told("3 and 4 pages", bench, 3 + 2 * 4, 0, 4, 0, 0, 1, 0, 0, 1, 0, 35);
        bench.sameKey(0, 5, 4);
        bench.join();
        due.told("5 and 4 pages", bench, 4 + 2 * 5, 0, 4, 0, 0, 1, 0, 0, 1, 0, 63);
        Bench most = Bench.of(1, 3, 0).sameKey(0, 5, 250).sameKey(1, 5, 250);
        most.join();
        due.is("250 and 250 pages", most.told(0), 250 + 250 * 250);
    }

    /** LEFT's rows 0 .. 3 are a block, row 4 is another one. */
    private void pairsOfBlocks() {
        due.by(TERMS, "for each block the other one is read wholly, and makes PAIRS with the block's rows");
        Bench bench = Bench.of(2, 4, 0).sameKey(0, 5, 5).sameKey(1, 5, 20);
        bench.join();
        due.pair("the first block's first", bench, 0, 0, 0);
        due.pair("its last row", bench, 3, 3, 0);
        due.pair("the next row of RIGHT", bench, 4, 0, 1);
        due.pair("the first block's last", bench, 79, 3, 19);
        due.pair("the last block's first", bench, 80, 4, 0);
        due.pair("the last block's last", bench, 99, 4, 19);
    }

    private void memoryOfBlocks() {
        due.by(TERMS, "it takes the greatest block's pages of memory and 2.");
        Bench least = Bench.smallest(0).sameKey(0, 5, 2).sameKey(1, 5, 2);
        least.join();
        due.told("MEMORY 3", least, 2 + 2 * 2, 0, 3, 0, 0, 1, 0, 0, 1, 0, 4);
        Bench most = Bench.of(1, 20, 0).sameKey(0, 5, 19).sameKey(1, 5, 30);
        most.join();
        due.told("MEMORY 20, blocks of 18 pages and of 1", most, 19 + 2 * 30, 0, 20, 0, 0, 1, 0, 0, 1, 0, 570);
        most.cut(0, 1);
        most.join();
        due.told("MEMORY 20, 18 pages", most, 18 + 30, 0, 20, 0, 0, 1, 0, 1, 0, 0, 540);
        most.cut(0, 1);
        most.join();
        due.told("MEMORY 20, 17 pages", most, 17 + 30, 0, 19, 0, 0, 1, 0, 1, 0, 0, 510);
    }
}

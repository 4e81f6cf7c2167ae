/** Terms: the least and most parts, parts without rows, and what lies on the disk when. */
final class BoundaryTermsPartedTest {
    private static final String TERMS = "Terms";
    /** How many of the keys 0 .. 18 go to each of 19 parts at level 0, worked out apart from Java. */
    private static final int[] OF_19 = {2, 0, 1, 1, 0, 1, 1, 2, 1, 1, 1, 0, 3, 1, 0, 2, 0, 0, 2};

    private final Boundary due = new Boundary("boundaries of parting");

    public static void main(String[] args) {
        BoundaryTermsPartedTest test = new BoundaryTermsPartedTest();
        test.leastAndMostParts();
        test.mostPartsAtEveryLevel();
        test.partsOfUnequalLength();
        test.rowsOfAPartInOrder();
        test.partsWithoutRows();
        test.aFullTable(0);
        test.aFullTable(1);
        test.writtenPages();
        test.allOfMemory();
        test.tablesAreNotOnTheDisk();
        test.diskUntilAPartIsJoined();
        test.diskWithAllThatComesOfIt();
        test.due.end();
    }

    private void leastAndMostParts() {
        due.by(TERMS, "then the parts 0, 1, .. of LEFT and RIGHT are joined one after the other, at the next level");
        Bench most = Bench.of(1, 20, 1).keys(0, 0, 19).keys(1, 0, 19);
        due.is("join() in 19 parts", most.join(), 19);
        due.event("19 parts", most, 0, 3, 0, 19, 19, 38);
        for (int p = 0; p < 19; p++) {
            due.event("part " + p, most, 1 + p, OF_19[p] == 0 ? 0 : 1, 1, OF_19[p], OF_19[p], 2 * OF_19[p]);
        }
        due.is("no part behind the last", most.event(20, 0), JoinBench.BAD);
        Bench least = Bench.smallest(1).rows(0, 0, 1, 1).rows(1, 1, 0);
        due.is("join() in 2 parts", least.join(), 3);
        due.event("2 parts", least, 0, 3, 0, 3, 2, 5);
        due.event("part 0", least, 1, 1, 1, 1, 1, 2);
        due.event("part 1", least, 2, 1, 1, 2, 1, 3);
        due.is("no part behind the last", least.event(3, 0), JoinBench.BAD);
    }

    /** With 19 parts keys 308299 and 327009 go to the same part at each of the levels 0 .. 7. */
    private void mostPartsAtEveryLevel() {
        due.by(TERMS, "joined one after the other, at the next level");
        Bench bench = Bench.of(1, 20, 8);
        for (int table = 0; table < 2; table++) {
            bench.sameKey(table, 308299, 10).sameKey(table, 327009, 9);
        }
        due.is("join()", bench.join(), 10 * 10 + 9 * 9);
        due.told("8 partings", bench, 8 * 38 + 57, 8 * 38, 20, 8 * 38, 8, 1 + 8 * 19, 144, 0, 1, 8, 181);
        due.event("level 7", bench, 76, 3, 7, 19, 19, 38);
        due.event("level 8", bench, 77, 2, 8, 19, 19, 19 + 2 * 19);
        bench.size(2, 7);
        due.is("join()", bench.join(), 181);
        due.told("7 partings", bench, 7 * 38 + 57, 7 * 38, 20, 7 * 38, 7, 1 + 7 * 19, 126, 0, 1, 7, 181);
        due.event("level 7", bench, 76, 2, 7, 19, 19, 57);
    }

    /** With 2 parts key 0 goes to part 0, keys 1, 2 to part 1: part 1 begins elsewhere in LEFT than in RIGHT. */
    private void partsOfUnequalLength() {
        due.by(TERMS, "the parts 0, 1, .. of LEFT and RIGHT are joined");
        Bench left = Bench.smallest(8).rows(0, 0, 0, 0, 0, 0, 1, 1).rows(1, 0, 1, 1, 1);
        due.is("join(), LEFT's part 0 longer", left.join(), 5 + 6);
        due.event("LEFT's part 0 longer", left, 1, 1, 1, 5, 1, 6);
        due.event("LEFT's part 0 longer", left, 2, 2, 1, 2, 3, 2 + 2 * 3);
        due.pair("part 0's last", left, 4, 4, 0);
        due.pair("part 1's first", left, 5, 5, 1);
        due.pair("part 1's last", left, 10, 6, 3);
        left.row(1, 2, 2);
        left.join();
        due.event("two keys in RIGHT's part 1", left, 2, 3, 1, 2, 4, 6);
        Bench right = Bench.smallest(8).rows(0, 0, 1, 1, 1).rows(1, 0, 0, 0, 0, 0, 1, 1);
        due.is("join(), RIGHT's part 0 longer", right.join(), 5 + 6);
        due.event("RIGHT's part 0 longer", right, 1, 1, 1, 1, 5, 6);
        due.event("RIGHT's part 0 longer", right, 2, 2, 1, 3, 2, 2 + 2 * 3);
        due.pair("part 0's last", right, 4, 0, 4);
        due.pair("part 1's first", right, 5, 1, 5);
        due.pair("part 1's last", right, 10, 3, 6);
        right.row(0, 2, 2);
        right.join();
        due.event("two keys in LEFT's part 1", right, 2, 3, 1, 4, 2, 6);
    }

    /** With 2 parts key 0 goes to part 0 and key 1 to part 1. */
    private void rowsOfAPartInOrder() {
        due.by(TERMS, "each row of both goes to its PART at this level, in order");
        Bench bench = Bench.of(2, 3, 1).rows(0, 1, 0, 1, 0).rows(1, 0, 1, 0, 1);
        due.is("join()", bench.join(), 8);
        int[][] want = {{1, 0}, {3, 0}, {1, 2}, {3, 2}, {0, 1}, {2, 1}, {0, 3}, {2, 3}};
        for (int i = 0; i < want.length; i++) {
            due.pair("in order", bench, i, want[i][0], want[i][1]);
        }
    }

    /** With 2 parts keys 1, 2, 3 go to part 1, and again together to part 0 at level 1. */
    private void partsWithoutRows() {
        due.by(TERMS, "3 PARTED: each row of both goes to its PART at this level");
        Bench bench = Bench.smallest(2).rows(0, 1, 2, 3).rows(1, 3, 2);
        due.is("join()", bench.join(), 2);
        due.event("the tables", bench, 0, 3, 0, 3, 2, 5);
        due.event("part 0 without rows", bench, 1, 0, 1, 0, 0, 0);
        due.event("part 1 with all", bench, 2, 3, 1, 3, 2, 5);
        due.event("its part 0 with all", bench, 3, 2, 2, 3, 2, 2 + 2 * 3);
        due.event("its part 1 without rows", bench, 4, 0, 2, 0, 0, 0);
        due.told("all in one part", bench, 18, 10, 3, 10, 2, 5, 2, 0, 1, 2, 2);
    }

    /** 500 rows, keys 0 .. 499, with 2 parts; how they fall was counted apart from Java. */
    private void aFullTable(int table) {
        due.by(TERMS, "3 PARTED: each row of both goes to its PART at this level");
        Bench bench = new Bench().keys(table, 0, 500).rows(1 - table, 498, 499);
        bench.size(0, 1);
        bench.size(1, 3);
        due.is("join()", bench.join(), 2);
        due.is("READ", bench.told(0), 1018);
        due.is("WRITTEN", bench.told(1), 889);
        due.is("on the disk", bench.told(3), 645);
        due.is("rows of part 0", bench.event(1, 2 + table), 244);
        due.is("rows of part 1", bench.event(2, 2 + table), 256);
        due.is("row 499", bench.pair(1, table), 499);
        due.is("of the other table", bench.pair(1, 1 - table), 1);
    }

    /** Pages of 2 rows: parts that fill a page wholly, and that have a row more or less. */
    private void writtenPages() {
        due.by(TERMS, "READ are the PAGES of both, WRITTEN the PAGES of all parts of both");
        Bench bench = Bench.of(2, 3, 1).rows(0, 0, 0, 1, 1).rows(1, 0, 0, 1, 1);
        bench.join();
        due.told("2, 2 and 2, 2 rows", bench, 4 + 2 + 2, 4, 3, 4);
        bench.row(0, 1, 1);
        bench.join();
        due.told("2, 3 and 2, 2 rows", bench, 5 + 2 + 3, 5, 3, 5);
        bench.cut(1, 1);
        bench.join();
        due.told("2, 3 and 2, 1 rows", bench, 5 + 2 + 3, 5, 3, 5);
        bench.cut(0, 5);
        bench.rows(0, 1, 2, 3);
        bench.join();
        due.told("0, 3 and 2, 1 rows", bench, 4 + 0 + 3, 4, 3, 4);
    }

    /** Its parts take no more than 3 pages each. */
    private void allOfMemory() {
        due.by(TERMS, "it takes all of MEMORY.");
        Bench most = Bench.of(16, 20, 1).keys(0, 0, 289).keys(1, 0, 16);
        most.join();
        due.is("within memory", most.told(2), 1 + 2);
        most = Bench.of(1, 20, 1).keys(0, 0, 19).keys(1, 0, 19);
        most.join();
        due.is("parted, MEMORY 20", most.told(2), 20);
        Bench nothing = Bench.of(1, 6, 1).sameKey(0, 0, 5).sameKey(1, 1, 5);
        due.is("join() of parts without pairs", nothing.join(), 0);
        due.is("parted, MEMORY 6", nothing.told(2), 6);
        nothing.size(1, 7);
        nothing.join();
        due.is("within memory, MEMORY 7", nothing.told(2), 7);
        nothing.cut(0, 1);
        nothing.join();
        due.is("within memory with a page less", nothing.told(2), 6);
    }

    private void tablesAreNotOnTheDisk() {
        due.by(TERMS, "the tables are none of it");
        Bench bench = Bench.smallest(0).keys(0, 0, 1).keys(1, 0, 9);
        bench.join();
        due.is("within memory", bench.told(3), 0);
        bench.keys(0, 1, 2);
        bench.join();
        due.is("by blocks", bench.told(3), 0);
        bench.size(2, 1);
        bench.join();
        due.is("parted: 2 and 9 rows", bench.told(3), 11);
        bench.cut(0, 2);
        bench.join();
        due.is("nothing", bench.told(3), 0);
    }

    /**
     * With 2 parts key 5 goes to part 0; keys 1, 2 go to part 1 and are parted anew, when part 0
     * is joined and gone.
     */
    private void diskUntilAPartIsJoined() {
        due.by(TERMS, "from when both are parted until both sides' part of one number is joined");
        Bench bench = Bench.smallest(2).rows(0, 5, 1, 2).rows(1, 5, 1, 2);
        bench.join();
        due.told("6; 4 and 4", bench, 6 + 2 + 4 + 6, 10, 3, 8);
        Bench oneSide = Bench.smallest(2).rows(0, 5, 5, 1, 2).rows(1, 1, 2);
        oneSide.join();
        due.told("6; 4 and 4, part 0 being nothing", oneSide, 6 + 0 + 4 + 6, 10, 3, 8);
        Bench more = Bench.smallest(2).rows(0, 5, 5, 5, 5, 5, 1, 2).rows(1, 5, 1, 2);
        more.join();
        due.told("10; 4 and 4", more, 10 + 6 + 4 + 6, 14, 3, 10);
    }

    /** Keys 5, 7 go to part 0 and stay together: what they are parted into lies there beside all the rest. */
    private void diskWithAllThatComesOfIt() {
        due.by(TERMS, "(with all that comes of it)");
        Bench first = Bench.smallest(2).rows(0, 5, 7, 1).rows(1, 5, 7, 1);
        first.join();
        due.told("6 and 4", first, 6 + 4 + 6 + 2, 10, 3, 10);
        // Keys 0 and 34 are parted 8 times, and all of it lies there until the last one is joined.
        Bench deep = Bench.smallest(8).rows(0, 0, 34, 1).rows(1, 0, 34, 1);
        deep.join();
        due.told("6 and 7 times 4", deep, 6 + 7 * 4 + 6 + 2, 6 + 7 * 4, 3, 6 + 7 * 4, 8);
        deep.size(2, 7);
        deep.join();
        due.told("6 and 6 times 4", deep, 6 + 6 * 4 + 6 + 2, 6 + 6 * 4, 3, 6 + 6 * 4, 7);
    }
}

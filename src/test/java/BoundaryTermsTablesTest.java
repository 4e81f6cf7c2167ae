/** Terms: how many tables, rows, rows of a page, pages of memory and partings there are. */
final class BoundaryTermsTablesTest {
    private static final String TERMS = "Terms";
    private static final int BAD = JoinBench.BAD;

    private final Boundary due = new Boundary("boundaries of the tables");

    public static void main(String[] args) {
        BoundaryTermsTablesTest test = new BoundaryTermsTablesTest();
        test.twoTables();
        test.fiveHundredRows(0);
        test.fiveHundredRows(1);
        test.rowsOfAPage();
        test.lastPageOfATable();
        test.lastPageOfAPart();
        test.pagesOfMemory();
        test.partingsNeverDeeper();
        test.due.end();
    }

    private void twoTables() {
        due.by(TERMS, "LEFT (0) and RIGHT (1)");
        Bench bench = new Bench();
        due.is("row(0, 3, 30)", bench.row(0, 3, 30), 1);
        due.is("row(1, 3, 31)", bench.row(1, 3, 31), 1);
        due.is("row(2, 3, 32)", bench.row(2, 3, 32), BAD);
        due.is("row(-1, 3, 33)", bench.row(-1, 3, 33), BAD);
        due.is("join()", bench.join(), 1);
        due.is("LEFT's value", bench.pair(0, 3), 30);
        due.is("RIGHT's value", bench.pair(0, 4), 31);
    }

    private void fiveHundredRows(int table) {
        due.by(TERMS, "each a row of ROWS, 500 at most, in their order");
        Bench bench = new Bench().keys(table, 0, 498);
        due.is("row 499", bench.row(table, 498, -498), 499);
        due.is("row 500", bench.row(table, 499, -499), 500);
        due.is("row 501", bench.row(table, 777, -777), JoinBench.FULL);
        due.is("the other table is not full", bench.row(1 - table, 499, 1), 1);
        due.is("join() with the last row's key", bench.join(), 1);
        due.is("its number", bench.pair(0, table), 499);
        due.is("its value", bench.pair(0, 3 + table), -499);
        bench.cut(1 - table, 1);
        bench.row(1 - table, 777, 1);
        due.is("join() with the refused row's key", bench.join(), 0);
    }

    private void rowsOfAPage() {
        due.by(TERMS, "A PAGE holds PER rows (1 .. 16; 4 at first)");
        Bench bench = new Bench().sameKey(0, 1, 3);
        due.is("3 rows at first", bench.pages(0), 1);
        bench.row(0, 1, 1);
        due.is("4 rows at first", bench.pages(0), 1);
        bench.row(0, 1, 1);
        due.is("5 rows at first", bench.pages(0), 2);
        due.is("PER 1", bench.size(0, 1), 4);
        due.is("5 rows, 1 a page", bench.pages(0), 5);
        due.is("PER 0", bench.size(0, 0), BAD);
        due.is("5 rows, still 1 a page", bench.pages(0), 5);
        due.is("PER 2", bench.size(0, 2), 1);
        due.is("5 rows, 2 a page", bench.pages(0), 3);
        due.is("PER 16", bench.size(0, 16), 2);
        bench.sameKey(0, 1, 11);
        due.is("16 rows, 16 a page", bench.pages(0), 1);
        due.is("PER 15", bench.size(0, 15), 16);
        due.is("16 rows, 15 a page", bench.pages(0), 2);
        bench.size(0, 16);
        bench.row(0, 1, 1);
        due.is("17 rows, 16 a page", bench.pages(0), 2);
        due.is("PER 17", bench.size(0, 17), BAD);
        due.is("17 rows, still 16 a page", bench.pages(0), 2);
    }

    private void lastPageOfATable() {
        due.by(TERMS, "the last one perhaps not wholly: PAGES of it are as many as that takes");
        for (int per = 1; per <= 16; per++) {
            Bench bench = Bench.of(per, 5, 4);
            due.is("no rows", bench.pages(1), 0);
            bench.row(1, 1, 1);
            due.is("1 row, " + per + " a page", bench.pages(1), 1);
            bench.sameKey(1, 1, 2 * per - 1);
            due.is("2 full pages of " + per, bench.pages(1), 2);
            bench.row(1, 1, 1);
            due.is("a row more than 2 pages of " + per, bench.pages(1), 3);
            bench.cut(1, 2);
            due.is("a row less than 2 pages of " + per, bench.pages(1), per == 1 ? 1 : 2);
        }
    }

    /** With 2 parts key 0 goes to part 0 and key 1 to part 1. */
    private void lastPageOfAPart() {
        due.by(TERMS, "rows of a table, or part, fill pages one after the other");
        Bench bench = Bench.of(3, 3, 1).rows(0, 0, 0, 0, 1, 1, 1).rows(1, 0, 1, 1, 1);
        bench.join();
        due.is("parts of 3 and 3, 1 and 3 rows", bench.told(1), 1 + 1 + 1 + 1);
        bench.row(0, 0, 1);
        bench.join();
        due.is("parts of 4 and 3, 1 and 3 rows", bench.told(1), 2 + 1 + 1 + 1);
        bench.row(1, 1, 1);
        bench.join();
        due.is("parts of 4 and 3, 1 and 4 rows", bench.told(1), 2 + 1 + 1 + 2);
        bench.cut(0, 5);
        bench.sameKey(0, 1, 3);
        bench.join();
        due.is("parts of 2 and 3, 1 and 4 rows", bench.told(1), 1 + 1 + 1 + 2);
    }

    private void pagesOfMemory() {
        due.by(TERMS, "MEMORY has 3 .. 20 pages (5 at first)");
        memory("at first", Bench.of(4, 5, 4), 3);
        memory("at first, not set", new Bench(), 3);
        memory("3 pages", Bench.of(4, 3, 4), 1);
        memory("4 pages", Bench.of(4, 4, 4), 2);
        memory("19 pages", Bench.of(4, 19, 4), 17);
        memory("20 pages", Bench.of(4, 20, 4), 18);
        Bench least = Bench.of(4, 3, 4);
        due.is("2 pages", least.size(1, 2), BAD);
        memory("still 3 pages", least, 1);
        Bench most = Bench.of(4, 20, 4);
        due.is("21 pages", most.size(1, 21), BAD);
        memory("still 20 pages", most, 18);
    }

    /** So many pages of 4 rows are joined within memory, and a row more is parted. */
    private void memory(String name, Bench bench, int pages) {
        bench.keys(0, 0, 4 * pages).keys(1, 0, 4 * pages + 1);
        bench.join();
        due.is(name + ": " + pages + " pages", bench.event(0, 0), 1);
        bench.row(0, -1, 0);
        bench.join();
        due.is(name + ": a row more", bench.event(0, 0), 3);
    }

    /** With 2 parts keys 0 and 34 go to the same part at each of the levels 0 .. 7. */
    private void partingsNeverDeeper() {
        due.by(TERMS, "PARTINGS are deeper than 0 .. 8 (4 at first) never");
        Bench bench = new Bench().rows(0, 0, 34).rows(1, 0, 34);
        bench.size(0, 1);
        bench.size(1, 3);
        deepest(bench, 4);
        due.is("size(2, 0)", bench.size(2, 0), 4);
        deepest(bench, 0);
        due.is("size(2, -1)", bench.size(2, -1), BAD);
        deepest(bench, 0);
        due.is("size(2, 1)", bench.size(2, 1), 0);
        deepest(bench, 1);
        due.is("size(2, 7)", bench.size(2, 7), 1);
        deepest(bench, 7);
        due.is("size(2, 8)", bench.size(2, 8), 7);
        deepest(bench, 8);
        due.is("size(2, 9)", bench.size(2, 9), BAD);
        deepest(bench, 8);
    }

    private void deepest(Bench bench, int partings) {
        due.is("join() with PARTINGS " + partings, bench.join(), 2);
        due.told("PARTINGS " + partings, bench, 4 * partings + 6, 4 * partings, 3, 4 * partings,
            partings, 2 * partings + 1, partings, 0, 1, partings, 2);
    }
}

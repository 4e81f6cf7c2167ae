/** Promise 5, at its boundaries. */
final class Boundary05PagesTest {
    private static final String PROMISE = "Promise 5: pages";

    private final Boundary due = new Boundary("boundaries of pages");

    public static void main(String[] args) {
        Boundary05PagesTest test = new Boundary05PagesTest();
        test.emptyAndFull(0);
        test.emptyAndFull(1);
        test.bad();
        test.due.end();
    }

    private void emptyAndFull(int table) {
        due.by(PROMISE, "PAGES of a table.");
        Bench bench = new Bench();
        due.is("no rows", bench.pages(table), 0);
        bench.row(table, 1, 1);
        due.is("1 row", bench.pages(table), 1);
        bench.sameKey(table, 1, 495);
        bench.size(0, 16);
        due.is("496 rows, 16 a page", bench.pages(table), 31);
        bench.row(table, 1, 1);
        due.is("497 rows, 16 a page", bench.pages(table), 32);
        bench.sameKey(table, 1, 3);
        due.is("500 rows, 16 a page", bench.pages(table), 32);
        bench.size(0, 1);
        due.is("500 rows, 1 a page", bench.pages(table), 500);
        due.is("the other table", bench.pages(1 - table), 0);
        bench.cut(table, 500);
        due.is("no rows again", bench.pages(table), 0);
    }

    private void bad() {
        due.by(PROMISE, "BAD.");
        Bench bench = new Bench().rows(0, 1).rows(1, 1, 2, 3, 4, 5);
        due.is("pages(0)", bench.pages(0), 1);
        due.is("pages(1)", bench.pages(1), 2);
        int[] none = {-1, 2, 3, 256, 1 << 16, Integer.MIN_VALUE, Integer.MIN_VALUE + 1, Integer.MAX_VALUE};
        for (int table : none) {
            due.is("pages(" + table + ")", bench.pages(table), JoinBench.BAD);
        }
    }
}

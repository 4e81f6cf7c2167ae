/** Promise 5: PAGES of a table. */
final class Promise05PagesTest {
    public static void main(String[] args) {
        Due due = new Due("promise 5");
        JoinBench bench = new JoinBench();
        int[] pagesOfFour = {0, 1, 1, 1, 1, 2, 2, 2, 2, 3};
        for (int i = 0; i < pagesOfFour.length; i++) {
            due.is("pages(0) of " + i + " rows", bench.pages(0), pagesOfFour[i]);
            due.is("pages(1) beside it", bench.pages(1), 0);
            bench.row(0, 1, 1);
        }
        bench.size(0, 1);
        due.is("pages(0) of 10 rows, one a page", bench.pages(0), 10);
        bench.size(0, 16);
        due.is("pages(0) of 10 rows, 16 a page", bench.pages(0), 1);
        bench.size(0, 3);
        due.is("pages(0) of 10 rows, 3 a page", bench.pages(0), 4);
        bench.cut(0, 1);
        due.is("pages(0) of 9 rows, 3 a page", bench.pages(0), 3);
        bench.row(1, 1, 1);
        due.is("pages(1) of a row", bench.pages(1), 1);
        int[] none = {-1, 2, Integer.MIN_VALUE, Integer.MAX_VALUE};
        for (int table : none) {
            due.is("pages(" + table + ")", bench.pages(table), JoinBench.BAD);
        }
        due.end();
    }
}

/** Promise 3, at its boundaries. */
final class Boundary03CutTest {
    private static final String PROMISE = "Promise 3: cut";
    private static final int BAD = JoinBench.BAD;

    private final Boundary due = new Boundary("boundaries of cut");

    public static void main(String[] args) {
        Boundary03CutTest test = new Boundary03CutTest();
        test.theLastGo(0);
        test.theLastGo(1);
        test.noSuchTable();
        test.notSoMany(0);
        test.notSoMany(1);
        test.notSoManyOfAFullTable();
        test.fewerThanNone();
        test.due.end();
    }

    private void theLastGo(int table) {
        due.by(PROMISE, "The last n rows of a table go: how many it has.");
        Bench bench = new Bench().rows(table, 5, 6, 7, 8).rows(1 - table, 8, 7, 6, 5);
        due.is("none", bench.cut(table, 0), 4);
        due.is("join() with all", bench.join(), 4);
        due.is("one", bench.cut(table, 1), 3);
        due.is("join() without the last", bench.join(), 3);
        due.is("the other table keeps its rows", bench.cut(1 - table, 0), 4);
        due.is("all but one", bench.cut(table, 2), 1);
        due.is("join() with the first", bench.join(), 1);
        due.is("it is the first", bench.pair(0, 2), 5);
        due.is("all", bench.cut(table, 1), 0);
        due.is("join() without rows", bench.join(), 0);
        due.is("none of none", bench.cut(table, 0), 0);
    }

    private void noSuchTable() {
        due.by(PROMISE, "BAD: no such table");
        Bench bench = new Bench().rows(0, 1, 2).rows(1, 1, 2, 3);
        int[] none = {-1, 2, 3, 256, 1 << 16, Integer.MIN_VALUE, Integer.MIN_VALUE + 1, Integer.MAX_VALUE};
        for (int table : none) {
            due.is("cut(" + table + ", 0)", bench.cut(table, 0), BAD);
            due.is("cut(" + table + ", 1)", bench.cut(table, 1), BAD);
        }
        due.is("cut(0, 0)", bench.cut(0, 0), 2);
        due.is("cut(1, 0)", bench.cut(1, 0), 3);
    }

    private void notSoMany(int table) {
        due.by(PROMISE, "or there are not so many.");
        Bench bench = new Bench().rows(table, 1, 2, 3).rows(1 - table, 1, 2, 3, 4, 5);
        due.is("4 of 3", bench.cut(table, 4), BAD);
        due.is("501 of 3", bench.cut(table, 501), BAD);
        due.is("the most of 3", bench.cut(table, Integer.MAX_VALUE), BAD);
        due.is("all 3 are there", bench.join(), 3);
        due.is("2 of 3", bench.cut(table, 2), 1);
        due.is("2 of 1", bench.cut(table, 2), BAD);
        due.is("1 of 1", bench.cut(table, 1), 0);
        due.is("1 of none", bench.cut(table, 1), BAD);
    }

    private void notSoManyOfAFullTable() {
        due.by(PROMISE, "or there are not so many.");
        Bench bench = new Bench().sameKey(0, 1, 500);
        due.is("501 of 500", bench.cut(0, 501), BAD);
        due.is("500 are there", bench.cut(0, 0), 500);
        due.is("499 of 500", bench.cut(0, 499), 1);
        due.is("row 2", bench.row(0, 1, 1), 2);
        due.is("2 of 2", bench.cut(0, 2), 0);
    }

    /** There are no -1 last rows of a table: what has gone does not come back. */
    private void fewerThanNone() {
        due.by(PROMISE, "The last n rows of a table go");
        Bench bench = new Bench().rows(0, 1, 2, 3);
        bench.cut(0, 1);
        due.is("cut(0, -1)", bench.cut(0, -1), BAD);
        due.is("cut(0, -2)", bench.cut(0, -2), BAD);
        due.is("the least", bench.cut(0, Integer.MIN_VALUE), BAD);
        due.is("the least and 1", bench.cut(0, Integer.MIN_VALUE + 1), BAD);
        due.is("2 are there", bench.cut(0, 0), 2);
    }
}

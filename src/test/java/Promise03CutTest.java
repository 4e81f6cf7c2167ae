/** Promise 3: the last n rows of a table go. */
final class Promise03CutTest {
    public static void main(String[] args) {
        Due due = new Due("promise 3");
        JoinBench bench = new JoinBench();
        Due.rows(bench, 0, 10, 1, 2, 3, 4, 5);
        Due.rows(bench, 1, 20, 5, 4, 3, 2, 1);
        due.is("cut(0, 2)", bench.cut(0, 2), 3);
        due.is("cut(0, 0)", bench.cut(0, 0), 3);
        due.is("cut(0, 4)", bench.cut(0, 4), JoinBench.BAD);
        due.is("cut(0, -1)", bench.cut(0, -1), JoinBench.BAD);
        due.is("cut(0, least)", bench.cut(0, Integer.MIN_VALUE), JoinBench.BAD);
        due.is("cut(0, most)", bench.cut(0, Integer.MAX_VALUE), JoinBench.BAD);
        due.is("cut(2, 0)", bench.cut(2, 0), JoinBench.BAD);
        due.is("cut(-1, 0)", bench.cut(-1, 0), JoinBench.BAD);
        due.is("a refused cut leaves all", bench.cut(0, 0), 3);
        due.is("the other table keeps its rows", bench.cut(1, 0), 5);
        due.is("join()", bench.join(), 3);
        due.is("the last ones went: pair(0, 2)", bench.pair(0, 2), 3);
        due.is("row(0, 5, 77)", bench.row(0, 5, 77), 4);
        due.is("join()", bench.join(), 4);
        due.is("the new row is number 3", bench.pair(0, 0), 3);
        due.is("the new row's value", bench.pair(0, 3), 77);
        due.is("cut(0, 4)", bench.cut(0, 4), 0);
        due.is("cut(0, 1)", bench.cut(0, 1), JoinBench.BAD);
        due.is("cut(1, 5)", bench.cut(1, 5), 0);
        due.is("join()", bench.join(), 0);
        due.end();
    }
}

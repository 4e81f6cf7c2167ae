/** Promise 2: a row comes behind a table's others; 500 at most. */
final class Promise02RowTest {
    public static void main(String[] args) {
        Due due = new Due("promise 2");
        JoinBench bench = new JoinBench();
        due.is("row(0, 5, 50)", bench.row(0, 5, 50), 1);
        due.is("row(0, 5, 51)", bench.row(0, 5, 51), 2);
        due.is("row(1, 5, 60)", bench.row(1, 5, 60), 1);
        due.is("row(2, ..)", bench.row(2, 1, 1), JoinBench.BAD);
        due.is("row(-1, ..)", bench.row(-1, 1, 1), JoinBench.BAD);
        due.is("row(least, ..)", bench.row(Integer.MIN_VALUE, 1, 1), JoinBench.BAD);
        due.is("row(most, ..)", bench.row(Integer.MAX_VALUE, 1, 1), JoinBench.BAD);
        due.is("join()", bench.join(), 2);
        due.is("pair(1, 0)", bench.pair(1, 0), 1);
        due.is("pair(1, 3)", bench.pair(1, 3), 51);
        anyIntIsAKeyAndAValue(due);
        for (int table = 0; table < 2; table++) {
            fills(due, table);
        }
        due.end();
    }

    private static void anyIntIsAKeyAndAValue(Due due) {
        int[] ends = {Integer.MIN_VALUE, Integer.MAX_VALUE, -1, -2, 0};
        JoinBench bench = new JoinBench();
        Due.rows(bench, 1, 0, ends);
        for (int i = 0; i < ends.length; i++) {
            due.is("row of an end", bench.row(0, ends[i], ends[i]), i + 1);
        }
        due.is("join() of ends", bench.join(), ends.length);
        for (int i = 0; i < ends.length; i++) {
            due.is("key of an end", bench.pair(i, 2), ends[i]);
            due.is("value of an end", bench.pair(i, 3), ends[i]);
        }
    }

    private static void fills(Due due, int table) {
        JoinBench bench = new JoinBench();
        for (int i = 1; i <= 500; i++) {
            due.is("row " + i, bench.row(table, i, i), i);
        }
        due.is("row 501", bench.row(table, 1, 1), JoinBench.FULL);
        due.is("row 501 again", bench.row(table, 1, 1), JoinBench.FULL);
        due.is("pages when full", bench.pages(table), 125);
        due.is("a bad table when one is full", bench.row(2, 1, 1), JoinBench.BAD);
        due.is("the other table", bench.row(1 - table, 500, 7), 1);
        due.is("join() of a full table", bench.join(), 1);
        due.is("the last row is found", bench.pair(0, table), 499);
        due.is("cut(.., 1)", bench.cut(table, 1), 499);
        due.is("row where one went", bench.row(table, 1, 1), 500);
    }
}

/** Promise 2, at its boundaries. */
final class Boundary02RowTest {
    private static final String PROMISE = "Promise 2: row";
    private static final int BAD = JoinBench.BAD;
    private static final int FULL = JoinBench.FULL;

    private final Boundary due = new Boundary("boundaries of row");

    public static void main(String[] args) {
        Boundary02RowTest test = new Boundary02RowTest();
        test.behindTheOthers();
        test.anyKeyAndValue();
        test.noSuchTable();
        test.full(0);
        test.full(1);
        test.due.end();
    }

    private void behindTheOthers() {
        due.by(PROMISE, "A row comes behind a table's others: how many it has.");
        Bench bench = new Bench();
        due.is("LEFT's first", bench.row(0, 6, 60), 1);
        due.is("RIGHT's first", bench.row(1, 6, 80), 1);
        due.is("LEFT's second", bench.row(0, 6, 61), 2);
        due.is("LEFT's third", bench.row(0, 6, 62), 3);
        bench.cut(0, 1);
        due.is("LEFT's third again", bench.row(0, 6, 63), 3);
        bench.join();
        due.is("LEFT's last is number 2", bench.pair(2, 0), 2);
        due.is("its value", bench.pair(2, 3), 63);
        bench.cut(0, 3);
        due.is("LEFT's first again", bench.row(0, 6, 64), 1);
    }

    private void anyKeyAndValue() {
        due.by(PROMISE, "int row(int table, int key, int value)");
        int[] ends = {Integer.MIN_VALUE, Integer.MIN_VALUE + 1, -2, -1, 0, Integer.MAX_VALUE - 1, Integer.MAX_VALUE};
        Bench bench = new Bench();
        for (int i = 0; i < ends.length; i++) {
            due.is("row(0, " + ends[i] + ", 0)", bench.row(0, ends[i], ends[ends.length - 1 - i]), i + 1);
            due.is("row(1, " + ends[i] + ", 0)", bench.row(1, ends[i], ends[i]), i + 1);
        }
        due.is("join()", bench.join(), ends.length);
        for (int i = 0; i < ends.length; i++) {
            due.is("key " + i, bench.pair(i, 2), ends[i]);
            due.is("LEFT's value " + i, bench.pair(i, 3), ends[ends.length - 1 - i]);
            due.is("RIGHT's value " + i, bench.pair(i, 4), ends[i]);
        }
    }

    private void noSuchTable() {
        due.by(PROMISE, "BAD: no such table");
        Bench bench = new Bench();
        int[] none = {-1, 2, 3, 256, 1 << 16, Integer.MIN_VALUE, Integer.MIN_VALUE + 1, Integer.MAX_VALUE};
        for (int table : none) {
            due.is("row(" + table + ", 1, 1)", bench.row(table, 1, 1), BAD);
        }
        due.is("LEFT has none", bench.cut(0, 0), 0);
        due.is("RIGHT has none", bench.cut(1, 0), 0);
        due.is("row(0, 1, 1)", bench.row(0, 1, 1), 1);
        due.is("row(1, 1, 1)", bench.row(1, 1, 1), 1);
    }

    private void full(int table) {
        due.by(PROMISE, "FULL.");
        Bench bench = new Bench().sameKey(table, 1, 498);
        due.is("row 499", bench.row(table, 2, 1), 499);
        due.is("row 500", bench.row(table, 3, 1), 500);
        due.is("row 501", bench.row(table, 4, 1), FULL);
        due.is("row 501 once more", bench.row(table, 4, 1), FULL);
        due.is("no table", bench.row(2, 4, 1), BAD);
        due.is("it has 500", bench.cut(table, 0), 500);
        due.is("the other table", bench.row(1 - table, 4, 1), 1);
        due.is("the refused row is not there", bench.join(), 0);
        due.is("a row goes", bench.cut(table, 1), 499);
        due.is("row 500 again", bench.row(table, 4, 1), 500);
    }
}

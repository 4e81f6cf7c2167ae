/** Promise 8, at its boundaries. */
final class Boundary08PairTest {
    private static final String PROMISE = "Promise 8: pair";
    private static final int BAD = JoinBench.BAD;

    private final Boundary due = new Boundary("boundaries of pair");

    public static void main(String[] args) {
        Boundary08PairTest test = new Boundary08PairTest();
        test.fromZero();
        test.noneSuch();
        test.noneBeforeAJoin();
        test.anotherWhat();
        test.valuesLikeAnswers();
        test.lastRowsOfFullTables();
        test.keyAndValues();
        test.asTheyWere();
        test.due.end();
    }

    private void fromZero() {
        due.by(PROMISE, "Of PAIR i (from 0)");
        Bench bench = new Bench().rows(0, 7, 8).rows(1, 8, 7);
        due.is("join()", bench.join(), 2);
        due.is("pair(-1, 0)", bench.pair(-1, 0), BAD);
        due.pair("the first", bench, 0, 1, 0);
        due.pair("the last", bench, 1, 0, 1);
        due.is("pair(2, 0)", bench.pair(2, 0), BAD);
    }

    private void noneSuch() {
        due.by(PROMISE, "BAD: none such");
        Bench bench = new Bench().rows(0, 7, 8).rows(1, 8, 7);
        bench.join();
        int[] none = {-1, 2, 3, 3999, 4000, 4001, 1 << 9, 1 << 16, 1 << 18, Integer.MIN_VALUE,
            Integer.MIN_VALUE + 1, Integer.MAX_VALUE};
        for (int i : none) {
            for (int what = 0; what < 5; what++) {
                due.is("pair(" + i + ", " + what + ")", bench.pair(i, what), BAD);
            }
        }
        Bench full = Samples.pairs(4000);
        full.join();
        due.is("pair(3999, 2) of 4000", full.pair(3999, 2), 8);
        due.is("pair(4000, 2) of 4000", full.pair(4000, 2), BAD);
        full.row(1, 8, 1);
        full.join();
        due.is("pair(0, 2) of 4001", full.pair(0, 2), BAD);
        due.is("pair(3999, 2) of 4001", full.pair(3999, 2), BAD);
    }

    private void noneBeforeAJoin() {
        due.by(PROMISE, "BAD: none such");
        Bench bench = new Bench().rows(0, 7).rows(1, 7);
        due.is("before a join", bench.pair(0, 0), BAD);
        bench.join();
        due.is("after it", bench.pair(0, 0), 0);
        bench.cut(0, 1);
        bench.join();
        due.is("after one without PAIRS", bench.pair(0, 0), BAD);
    }

    private void anotherWhat() {
        due.by(PROMISE, "or what (told of values, too).");
        Bench bench = new Bench();
        bench.row(0, 6, 0);
        bench.row(0, 7, 71);
        bench.row(1, 7, 72);
        bench.join();
        int[] want = {1, 0, 7, 71, 72};
        for (int what = 0; what < 5; what++) {
            due.is("pair(0, " + what + ")", bench.pair(0, what), want[what]);
        }
        int[] others = {-1, 5, 6, 256, 1 << 16, Integer.MIN_VALUE, Integer.MIN_VALUE + 1, Integer.MAX_VALUE};
        for (int what : others) {
            due.is("pair(0, " + what + ")", bench.pair(0, what), BAD);
        }
    }

    /** -1 and -2 are keys and values as others are. */
    private void valuesLikeAnswers() {
        due.by(PROMISE, "(told of values, too)");
        Bench bench = new Bench();
        bench.row(0, -1, -1);
        bench.row(0, -2, -2);
        bench.row(1, -1, -2);
        bench.row(1, -2, -1);
        due.is("join()", bench.join(), 2);
        int[][] want = {{0, 0, -1, -1, -2}, {1, 1, -2, -2, -1}};
        for (int i = 0; i < 2; i++) {
            for (int what = 0; what < 5; what++) {
                due.is("pair(" + i + ", " + what + ")", bench.pair(i, what), want[i][what]);
            }
        }
    }

    private void lastRowsOfFullTables() {
        due.by(PROMISE, "the number of its LEFT row (what = 0), of its RIGHT row (1)");
        for (int table = 0; table < 2; table++) {
            Bench bench = new Bench().keys(table, 0, 500);
            bench.rows(1 - table, 499, 0);
            due.is("join()", bench.join(), 2);
            due.is("the first row", bench.pair(0, table), 0);
            due.is("of the other table", bench.pair(0, 1 - table), 1);
            due.is("row 499", bench.pair(1, table), 499);
            due.is("of the other table", bench.pair(1, 1 - table), 0);
        }
    }

    private void keyAndValues() {
        due.by(PROMISE, "their KEY (2), the VALUES of both (3, 4)");
        int[] ends = {Integer.MIN_VALUE, 0, Integer.MAX_VALUE};
        for (int end : ends) {
            Bench bench = new Bench();
            bench.row(0, end, end - 1);
            bench.row(1, end, end + 1);
            bench.join();
            five("key " + end, bench, 0, 0, end, end - 1, end + 1);
        }
    }

    private void asTheyWere() {
        due.by(PROMISE, "as they were when it was joined.");
        Bench bench = new Bench();
        bench.row(0, 7, 70);
        bench.row(1, 7, 80);
        bench.join();
        bench.cut(0, 1);
        bench.cut(1, 1);
        five("rows went", bench, 0, 0, 7, 70, 80);
        bench.row(0, 9, 90);
        bench.row(1, 9, 91);
        five("others came", bench, 0, 0, 7, 70, 80);
        bench.join();
        five("joined anew", bench, 0, 0, 9, 90, 91);
    }

    private void five(String name, Bench bench, int... want) {
        for (int what = 0; what < 5; what++) {
            due.is(name + ": pair(0, " + what + ")", bench.pair(0, what), want[what]);
        }
    }
}

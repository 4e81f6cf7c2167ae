/** Promise 10: what is told of an EVENT; 300 are told at most. */
final class Promise10EventTest {
    public static void main(String[] args) {
        Due due = new Due("promise 10");
        JoinBench bench = Due.everyKind();
        due.is("event(0, 0) before any join", bench.event(0, 0), JoinBench.BAD);
        bench.join();
        int[][] want = {{3, 0, 3, 4, 7}, {1, 1, 1, 1, 2}, {3, 1, 2, 3, 5}, {2, 2, 2, 3, 8}, {0, 2, 0, 0, 0}};
        for (int i = 0; i < want.length; i++) {
            for (int what = 0; what < 5; what++) {
                due.is("event(" + i + ", " + what + ")", bench.event(i, what), want[i][what]);
            }
        }
        wrongInputs(due, bench);
        nothingHasTheRowsOfTheOther(due);
        oneKeyIsThatOfBoth(due);
        onlySomeAreTold(due);
        due.end();
    }

    private static void wrongInputs(Due due, JoinBench bench) {
        int[] none = {-1, 5, 299, 300, Integer.MIN_VALUE, Integer.MAX_VALUE};
        for (int i : none) {
            due.is("event(" + i + ", 0)", bench.event(i, 0), JoinBench.BAD);
        }
        int[] others = {-1, 5, Integer.MIN_VALUE, Integer.MAX_VALUE};
        for (int what : others) {
            due.is("event(0, " + what + ")", bench.event(0, what), JoinBench.BAD);
        }
    }

    private static void nothingHasTheRowsOfTheOther(Due due) {
        JoinBench bench = new JoinBench();
        Due.rows(bench, 1, 0, 4, 5, 6, 7, 8);
        bench.join();
        int[] want = {0, 0, 0, 5, 0};
        for (int what = 0; what < 5; what++) {
            due.is("no LEFT rows: event(0, " + what + ")", bench.event(0, what), want[what]);
        }
    }

    private static void oneKeyIsThatOfBoth(Due due) {
        due.is("LEFT 1, 1; RIGHT 1, 1", kindOf(1, 1, 1, 1), 2);
        due.is("LEFT 1, 2; RIGHT 1, 1", kindOf(1, 2, 1, 1), 3);
        due.is("LEFT 1, 1; RIGHT 1, 2", kindOf(1, 1, 1, 2), 3);
        due.is("LEFT 1, 1; RIGHT 2, 2", kindOf(1, 1, 2, 2), 3);
    }

    private static int kindOf(int left, int leftToo, int right, int rightToo) {
        JoinBench bench = Due.bench(1, 3, 1);
        Due.rows(bench, 0, 0, left, leftToo);
        Due.rows(bench, 1, 0, right, rightToo);
        bench.join();
        return bench.event(0, 0);
    }

    private static void onlySomeAreTold(Due due) {
        JoinBench bench = Due.manyEvents();
        bench.join();
        due.is("told(5) > 300", bench.told(5) > 300 ? 1 : 0, 1);
        due.is("event(299, 0) is told", bench.event(299, 0) >= 0 ? 1 : 0, 1);
        due.is("event(300, 0) is not", bench.event(300, 0), JoinBench.BAD);
        due.is("the last event is not", bench.event(bench.told(5) - 1, 0), JoinBench.BAD);
        bench.size(1, 20);
        bench.size(2, 1);
        bench.join();
        due.is("a later join's events", bench.told(5), 20);
        due.is("its last one", bench.event(19, 1), 1);
        due.is("none behind it", bench.event(20, 0), JoinBench.BAD);
    }
}

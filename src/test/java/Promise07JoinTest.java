/** Promise 7: the tables are joined; how many PAIRS; FULL beyond 4000. */
final class Promise07JoinTest {
    public static void main(String[] args) {
        Due due = new Due("promise 7");
        due.is("join() with an event of every kind", Due.everyKind().join(), 4);
        emptyTables(due);
        fullOnlyBeyond4000(due);
        whatIsToldStays(due);
        aLaterJoinForgetsTheFormer(due);
        tablesKeepTheirRows(due);
        due.end();
    }

    private static void emptyTables(Due due) {
        JoinBench bench = new JoinBench();
        due.is("join() of nothing", bench.join(), 0);
        bench.row(1, 1, 1);
        due.is("join() without LEFT rows", bench.join(), 0);
        due.is("its kind", bench.event(0, 0), 0);
        bench.cut(1, 1);
        bench.row(0, 1, 1);
        due.is("join() without RIGHT rows", bench.join(), 0);
        due.is("its kind", bench.event(0, 0), 0);
        bench.row(1, 2, 1);
        due.is("join() of other keys", bench.join(), 0);
        due.is("its kind", bench.event(0, 0), 1);
    }

    private static void fullOnlyBeyond4000(Due due) {
        JoinBench bench = new JoinBench();
        Due.sameKey(bench, 0, 9, 80);
        Due.sameKey(bench, 1, 9, 50);
        due.is("join() of 4000 pairs", bench.join(), 4000);
        due.is("pair(3999, 0)", bench.pair(3999, 0), 79);
        due.is("pair(4000, 0)", bench.pair(4000, 0), JoinBench.BAD);
        bench.row(0, 1, 0);
        bench.row(1, 1, 0);
        due.is("join() of 4001 pairs", bench.join(), JoinBench.FULL);
        due.is("told(10)", bench.told(10), 4001);
        due.is("pair(0, 0)", bench.pair(0, 0), JoinBench.BAD);
        due.is("pair(3999, 0)", bench.pair(3999, 0), JoinBench.BAD);
        due.is("event 0 is told", bench.event(0, 0), 3);
        due.is("told(5) is told", bench.told(5) > 1 ? 1 : 0, 1);
        bench.cut(0, 1);
        due.is("join() of 4000 pairs again", bench.join(), 4000);
        due.is("pair(0, 0) is there again", bench.pair(0, 0) >= 0 ? 1 : 0, 1);
    }

    private static void whatIsToldStays(Due due) {
        JoinBench bench = Due.everyKind();
        bench.join();
        bench.cut(0, 3);
        bench.row(0, 50, 500);
        bench.cut(1, 4);
        bench.row(1, 50, 600);
        bench.size(0, 16);
        bench.size(1, 20);
        bench.size(2, 0);
        due.is("told(0) stays", bench.told(0), 22);
        due.is("told(10) stays", bench.told(10), 4);
        due.is("event(3, 4) stays", bench.event(3, 4), 8);
        due.is("event(0, 2) stays", bench.event(0, 2), 3);
        due.is("pair(0, 4) stays", bench.pair(0, 4), 20);
        due.is("pair(1, 0) stays", bench.pair(1, 0), 0);
        due.is("pair(1, 1) stays", bench.pair(1, 1), 2);
        due.is("pair(1, 2) stays", bench.pair(1, 2), 1);
        due.is("pair(1, 3) stays", bench.pair(1, 3), 10);
        due.is("pair(1, 4) stays", bench.pair(1, 4), 22);
        due.is("join() anew", bench.join(), 1);
        due.is("pair(0, 3) anew", bench.pair(0, 3), 500);
        due.is("pair(0, 4) anew", bench.pair(0, 4), 600);
    }

    private static void aLaterJoinForgetsTheFormer(Due due) {
        JoinBench bench = Due.everyKind();
        bench.join();
        bench.cut(0, 3);
        bench.cut(1, 4);
        due.is("join() of nothing", bench.join(), 0);
        for (int what = 0; what <= 10; what++) {
            due.is("told(" + what + ")", bench.told(what), what == 5 || what == 6 ? 1 : 0);
        }
        due.is("pair(0, 0)", bench.pair(0, 0), JoinBench.BAD);
        due.is("event(1, 0)", bench.event(1, 0), JoinBench.BAD);
    }

    private static void tablesKeepTheirRows(Due due) {
        JoinBench bench = Due.everyKind();
        for (int i = 0; i < 3; i++) {
            due.is("join() once more", bench.join(), 4);
            due.is("told(0) once more", bench.told(0), 22);
            due.is("told(3) once more", bench.told(3), 10);
            due.is("pair(3, 0) once more", bench.pair(3, 0), 2);
        }
        due.is("cut(0, 0)", bench.cut(0, 0), 3);
        due.is("cut(1, 0)", bench.cut(1, 0), 4);
    }
}

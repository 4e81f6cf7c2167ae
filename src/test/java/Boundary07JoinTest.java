/** Promise 7, at its boundaries. */
final class Boundary07JoinTest {
    private static final String PROMISE = "Promise 7: join";
    private static final int BAD = JoinBench.BAD;
    private static final int FULL = JoinBench.FULL;

    private final Boundary due = new Boundary("boundaries of join");

    public static void main(String[] args) {
        Boundary07JoinTest test = new Boundary07JoinTest();
        test.fewPairs();
        test.moreThan4000();
        test.noPairsAreThere();
        test.allElseWithinMemory();
        test.allElseByBlocks();
        test.allElseParted();
        test.staysWhateverIsCalled();
        test.joinedAnew();
        test.due.end();
    }

    private void fewPairs() {
        due.by(PROMISE, "The tables are joined: how many PAIRS.");
        Bench bench = new Bench();
        due.is("no rows", bench.join(), 0);
        bench.row(0, 1, 1);
        due.is("no RIGHT rows", bench.join(), 0);
        bench.row(1, 2, 1);
        due.is("no key of both", bench.join(), 0);
        bench.row(1, 1, 1);
        due.is("one key of both", bench.join(), 1);
        bench.cut(0, 1);
        due.is("no LEFT rows", bench.join(), 0);
        Bench full = new Bench().keys(0, 0, 500);
        full.row(1, 499, 1);
        due.is("a full table and a row", full.join(), 1);
    }

    private void moreThan4000() {
        due.by(PROMISE, "FULL: there are more than 4000");
        due.is("3999", Samples.pairs(3999).join(), 3999);
        due.is("4000", Samples.pairs(4000).join(), 4000);
        due.is("4001", Samples.pairs(4001).join(), FULL);
        due.is("4002", Samples.pairs(4002).join(), FULL);
        Bench blocks = Bench.of(1, 3, 0).sameKey(0, 5, 80).sameKey(1, 5, 50);
        due.is("4000 by blocks", blocks.join(), 4000);
        blocks.row(0, 6, 1);
        blocks.row(1, 6, 1);
        due.is("4001 by blocks", blocks.join(), FULL);
        blocks.size(2, 1);
        due.is("4001 parted", blocks.join(), FULL);
        blocks.cut(0, 1);
        due.is("4000 parted", blocks.join(), 4000);
        Bench most = new Bench().sameKey(0, 5, 250).sameKey(1, 5, 250);
        due.is("62500", most.join(), FULL);
        due.is("62500", most.told(10), 62500);
    }

    private void noPairsAreThere() {
        due.by(PROMISE, "(then no PAIRS are there;");
        Bench bench = Samples.pairs(4000);
        bench.join();
        due.pair("4000", bench, 3999, 79, 99);
        bench.row(1, 8, 1);
        due.is("join()", bench.join(), FULL);
        int[] numbers = {0, 1, 3998, 3999, 4000, 4001};
        for (int i : numbers) {
            for (int what = 0; what < 5; what++) {
                due.is("pair(" + i + ", " + what + ") of 4001", bench.pair(i, what), BAD);
            }
        }
        bench.cut(1, 1);
        bench.join();
        due.pair("4000 again", bench, 0, 0, 0);
        due.pair("4000 again", bench, 3999, 79, 99);
    }

    private void allElseWithinMemory() {
        due.by(PROMISE, "all else is told as if they were)");
        Bench most = Samples.pairs(4000);
        most.join();
        due.told("4000", most, 5 + 7, 0, 7, 0, 0, 1, 0, 1, 0, 0, 4000);
        due.event("4000", most, 0, 1, 0, 80, 100, 12);
        Bench more = Samples.pairs(4001);
        more.join();
        due.told("4001", more, 5 + 7, 0, 7, 0, 0, 1, 0, 1, 0, 0, 4001);
        due.event("4001", more, 0, 1, 0, 80, 101, 12);
        due.is("4001: event(1, 0)", more.event(1, 0), BAD);
    }

    private void allElseByBlocks() {
        due.by(PROMISE, "all else is told as if they were)");
        Bench bench = new Bench().sameKey(0, 5, 64).sameKey(1, 5, 63);
        due.is("join()", bench.join(), FULL);
        due.told("4032", bench, 16 + 6 * 16, 0, 5, 0, 0, 1, 0, 0, 1, 0, 4032);
        due.event("4032", bench, 0, 2, 0, 64, 63, 112);
    }

    /** With 4 parts key 1 goes to part 1 and key 9 to part 3, which has all PAIRS but one. */
    private void allElseParted() {
        due.by(PROMISE, "all else is told as if they were)");
        Bench bench = new Bench().sameKey(0, 9, 64).sameKey(0, 1, 1).sameKey(1, 9, 63).sameKey(1, 1, 1);
        due.is("join()", bench.join(), FULL);
        due.told("4033", bench, 33 + 2 + 112, 34, 5, 34, 1, 5, 2, 1, 1, 1, 4033);
        due.event("4033", bench, 0, 3, 0, 65, 64, 33);
        due.event("4033", bench, 2, 1, 1, 1, 1, 2);
        due.event("4033", bench, 4, 2, 1, 64, 63, 112);
    }

    private void staysWhateverIsCalled() {
        due.by(PROMISE, "What is told stays until it is joined anew.");
        Bench bench = Samples.everyKind();
        bench.join();
        bench.size(0, 16);
        bench.size(1, 20);
        bench.size(2, 0);
        toldOfEveryKind("sizes changed", bench);
        bench.row(0, 1, 77);
        bench.row(1, 1, 78);
        toldOfEveryKind("rows came", bench);
        bench.cut(0, 4);
        bench.cut(1, 5);
        toldOfEveryKind("all rows went", bench);
        bench.rows(0, 4, 4, 4).rows(1, 5, 5, 5, 5);
        toldOfEveryKind("others came", bench);
        bench.row(2, 1, 1);
        bench.cut(0, 9);
        bench.size(0, 17);
        bench.pages(2);
        bench.part(1, 9);
        bench.pair(4, 0);
        bench.told(11);
        bench.event(5, 0);
        toldOfEveryKind("calls refused", bench);
    }

    private void toldOfEveryKind(String name, Bench bench) {
        due.told(name, bench, Samples.everyKindTold());
        due.event(name, bench, 0, 3, 0, 3, 4, 7);
        due.event(name, bench, 3, 2, 2, 2, 3, 8);
        int[][] pairs = {{1, 0, 0, 9, -1}, {0, 2, 1, -1, 19}, {0, 3, 1, -1, 29}, {2, 1, 2, 19, 9}};
        for (int i = 0; i < pairs.length; i++) {
            for (int what = 0; what < 5; what++) {
                due.is(name + ": pair(" + i + ", " + what + ")", bench.pair(i, what), pairs[i][what]);
            }
        }
        due.is(name + ": pair(4, 0)", bench.pair(4, 0), BAD);
        due.is(name + ": event(5, 0)", bench.event(5, 0), BAD);
    }

    private void joinedAnew() {
        due.by(PROMISE, "until it is joined anew.");
        Bench bench = Samples.everyKind();
        bench.join();
        bench.cut(0, 3);
        due.is("join() without LEFT rows", bench.join(), 0);
        due.told("without LEFT rows", bench, 0, 0, 0, 0, 0, 1, 1, 0, 0, 0, 0);
        due.event("without LEFT rows", bench, 0, 0, 0, 0, 4, 0);
        due.is("event(1, 0)", bench.event(1, 0), BAD);
        due.is("pair(0, 0)", bench.pair(0, 0), BAD);
        bench.row(0, 2, 5);
        due.is("join() with a row", bench.join(), 1);
        due.told("with a row", bench, 5, 0, 3, 0, 0, 1, 0, 1, 0, 0, 1);
        due.pair("with a row", bench, 0, 0, 1);
        due.is("its value", bench.pair(0, 3), 5);
        due.is("joined once more", bench.join(), 1);
        due.told("once more", bench, 5, 0, 3, 0, 0, 1, 0, 1, 0, 0, 1);
        Bench full = Samples.pairs(4001);
        full.join();
        full.cut(1, 101);
        due.is("join() of nothing after FULL", full.join(), 0);
        due.told("nothing after FULL", full, 0, 0, 0, 0, 0, 1, 1, 0, 0, 0, 0);
    }
}

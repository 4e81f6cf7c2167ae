/** Promise 1, at its boundaries. */
final class Boundary01NewObjectTest {
    private static final String PROMISE = "Promise 1: A new object";
    private static final int BAD = JoinBench.BAD;

    private final Boundary due = new Boundary("boundaries of a new object");

    public static void main(String[] args) {
        Boundary01NewObjectTest test = new Boundary01NewObjectTest();
        test.noRows();
        test.nothingWasJoined();
        test.everyObjectIsNew();
        test.due.end();
    }

    private void noRows() {
        due.by(PROMISE, "No rows");
        for (int table = 0; table < 2; table++) {
            Bench bench = new Bench();
            due.is("pages(" + table + ")", bench.pages(table), 0);
            due.is("cut(" + table + ", 0)", bench.cut(table, 0), 0);
            due.is("cut(" + table + ", 1)", bench.cut(table, 1), BAD);
            due.is("row(" + table + ", 0, 0)", bench.row(table, 0, 0), 1);
            due.is("pages(" + table + ") with a row", bench.pages(table), 1);
        }
        Bench bench = new Bench();
        due.is("join()", bench.join(), 0);
        due.event("no rows", bench, 0, 0, 0, 0, 0, 0);
    }

    private void nothingWasJoined() {
        due.by(PROMISE, "nothing was joined.");
        Bench bench = new Bench();
        nothingIsTold("at first", bench);
        bench.rows(0, 1, 2).rows(1, 1, 2);
        bench.size(0, 1);
        bench.size(1, 3);
        bench.cut(0, 1);
        nothingIsTold("with rows", bench);
        due.is("join()", bench.join(), 1);
        due.told("joined", bench, 3, 0, 3, 0, 0, 1, 0, 1, 0, 0, 1);
        due.pair("joined", bench, 0, 0, 0);
        Bench empty = new Bench();
        due.is("join() without rows", empty.join(), 0);
        due.told("joined without rows", empty, 0, 0, 0, 0, 0, 1, 1, 0, 0, 0, 0);
    }

    private void nothingIsTold(String name, Bench bench) {
        due.told(name, bench, 0, 0, 0, 0, -1, 0, 0, 0, 0, 0, 0);
        for (int what = 0; what < 5; what++) {
            due.is(name + ": pair(0, " + what + ")", bench.pair(0, what), BAD);
            due.is(name + ": event(0, " + what + ")", bench.event(0, what), BAD);
        }
    }

    private void everyObjectIsNew() {
        due.by(PROMISE, "No rows; nothing was joined.");
        Bench used = Samples.everyKind();
        used.join();
        Bench fresh = new Bench();
        nothingIsTold("beside another", fresh);
        due.is("pages(0) beside another", fresh.pages(0), 0);
        due.is("PER beside another", fresh.size(0, 16), 4);
        due.is("MEMORY beside another", fresh.size(1, 20), 5);
        due.is("PARTINGS beside another", fresh.size(2, 0), 4);
        due.is("join() beside another", fresh.join(), 0);
        due.told("the other one", used, Samples.everyKindTold());
        due.is("PER of the other one", used.size(0, 1), 1);
    }
}

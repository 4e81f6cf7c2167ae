/** Promise 1: no rows; nothing was joined; sizes as at first. */
final class Promise01NewObjectTest {
    public static void main(String[] args) {
        Due due = new Due("promise 1");
        JoinBench bench = new JoinBench();
        due.is("pages(0)", bench.pages(0), 0);
        due.is("pages(1)", bench.pages(1), 0);
        due.is("cut(0, 1)", bench.cut(0, 1), JoinBench.BAD);
        due.is("cut(1, 1)", bench.cut(1, 1), JoinBench.BAD);
        due.is("cut(0, 0)", bench.cut(0, 0), 0);
        due.is("cut(1, 0)", bench.cut(1, 0), 0);
        for (int what = 0; what <= 10; what++) {
            due.is("told(" + what + ")", bench.told(what), what == 4 ? -1 : 0);
        }
        due.is("pair(0, 0)", bench.pair(0, 0), JoinBench.BAD);
        due.is("event(0, 0)", bench.event(0, 0), JoinBench.BAD);
        due.is("size(0, 4)", bench.size(0, 4), 4);
        due.is("size(1, 5)", bench.size(1, 5), 5);
        due.is("size(2, 4)", bench.size(2, 4), 4);
        due.is("BAD", JoinBench.BAD, -1);
        due.is("FULL", JoinBench.FULL, -2);
        objectsShareNothing(due);
        due.end();
    }

    private static void objectsShareNothing(Due due) {
        JoinBench used = Due.everyKind();
        used.join();
        JoinBench fresh = new JoinBench();
        due.is("pages(0) beside a used object", fresh.pages(0), 0);
        due.is("size(0, 4) beside a used object", fresh.size(0, 4), 4);
        due.is("told(10) beside a used object", fresh.told(10), 0);
        due.is("pair(0, 0) beside a used object", fresh.pair(0, 0), JoinBench.BAD);
        due.is("join() beside a used object", fresh.join(), 0);
    }
}

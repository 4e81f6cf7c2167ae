/** Promise 10, at its boundaries. */
final class Boundary10EventTest {
    private static final String PROMISE = "Promise 10: event";
    private static final int BAD = JoinBench.BAD;
    /** 5 times this is 4 as a wrapping int. */
    private static final int WRAPS = 858993460;

    private final Boundary due = new Boundary("boundaries of event");

    public static void main(String[] args) {
        Boundary10EventTest test = new Boundary10EventTest();
        test.everyEvent();
        test.byItAlone();
        test.noneSuch();
        test.noneBeforeAJoin();
        test.notTold();
        test.anotherWhat();
        test.fewerLater();
        test.due.end();
    }

    private void everyEvent() {
        due.by(PROMISE, "Of EVENT i: its kind (what = 0), level (1), how many rows LEFT has (2), RIGHT (3)");
        Bench bench = Samples.everyKind();
        bench.join();
        due.is("event(-1, 0)", bench.event(-1, 0), BAD);
        due.event("the first", bench, 0, 3, 0, 3, 4, 7);
        due.event("within memory", bench, 1, 1, 1, 1, 1, 2);
        due.event("parted anew", bench, 2, 3, 1, 2, 3, 5);
        due.event("by blocks", bench, 3, 2, 2, 2, 3, 8);
        due.event("the last, of nothing", bench, 4, 0, 2, 0, 0, 0);
        due.is("event(5, 0)", bench.event(5, 0), BAD);
        Bench full = new Bench().keys(0, 0, 500);
        full.join();
        due.event("a full LEFT", full, 0, 0, 0, 500, 0, 0);
        full = new Bench().keys(1, 0, 500);
        full.join();
        due.event("a full RIGHT", full, 0, 0, 0, 0, 500, 0);
    }

    /** Those of its parts are theirs. */
    private void byItAlone() {
        due.by(PROMISE, "how many PAGES were READ by it alone (4).");
        Bench bench = Samples.everyKind();
        bench.join();
        int sum = 0;
        for (int i = 0; i < 5; i++) {
            sum += bench.event(i, 4);
        }
        due.is("all of them", sum, bench.told(0));
        due.is("parted", bench.event(0, 4), 7);
        due.is("nothing", bench.event(4, 4), 0);
    }

    private void noneSuch() {
        due.by(PROMISE, "BAD: none such");
        Bench bench = Samples.everyKind();
        bench.join();
        int[] none = {-1, 5, 6, 299, 300, 301, 1 << 16, WRAPS - 1, WRAPS, WRAPS + 1, -WRAPS, 1 << 30, 1 << 31,
            Integer.MIN_VALUE + 1, Integer.MAX_VALUE};
        for (int i : none) {
            for (int what = 0; what < 5; what++) {
                due.is("event(" + i + ", " + what + ")", bench.event(i, what), BAD);
            }
        }
    }

    private void noneBeforeAJoin() {
        due.by(PROMISE, "BAD: none such");
        Bench bench = new Bench().rows(0, 1).rows(1, 1);
        due.is("before a join", bench.event(0, 0), BAD);
        bench.join();
        due.is("after it", bench.event(0, 0), 1);
        due.is("event(1, 0)", bench.event(1, 0), BAD);
    }

    private void notTold() {
        due.by(PROMISE, "or it is not told.");
        Bench less = Samples.events299();
        less.join();
        due.is("event(298, 1) of 299", less.event(298, 1), 8);
        due.is("event(299, 1) of 299", less.event(299, 1), BAD);
        Bench all = Samples.events300();
        all.join();
        due.is("event(299, 1) of 300", all.event(299, 1), 2);
        due.is("event(300, 1) of 300", all.event(300, 1), BAD);
        Bench more = Samples.events301();
        more.join();
        due.is("EVENTS", more.told(5), 301);
        for (int what = 0; what < 5; what++) {
            due.is("event(300, " + what + ") of 301", more.event(300, what), BAD);
        }
        due.event("event 299 of 301", more, 299, 1, 8, 1, 1, 2);
    }

    private void anotherWhat() {
        due.by(PROMISE, "BAD: none such");
        Bench bench = Samples.everyKind();
        bench.join();
        int[] others = {-1, 5, 6, 256, 1 << 16, Integer.MIN_VALUE, Integer.MIN_VALUE + 1, Integer.MAX_VALUE};
        for (int what : others) {
            for (int i = 0; i < 5; i++) {
                due.is("event(" + i + ", " + what + ")", bench.event(i, what), BAD);
            }
        }
    }

    private void fewerLater() {
        due.by(PROMISE, "BAD: none such, or it is not told.");
        Bench bench = Samples.events301();
        bench.join();
        bench.size(2, 0);
        bench.join();
        due.event("one event", bench, 0, 2, 0, 148, 148, 148 + 148 * 148);
        due.is("event(1, 0)", bench.event(1, 0), BAD);
        due.is("event(299, 0)", bench.event(299, 0), BAD);
        bench.size(2, 8);
        bench.join();
        due.event("event 299 again", bench, 299, 1, 8, 1, 1, 2);
    }
}

/** Terms, and what the document says of calls: 4000 PAIRS, 300 EVENTS that are told, 512 calls. */
final class BoundaryTermsLimitsTest {
    private static final String TERMS = "Terms";
    private static final int BAD = JoinBench.BAD;

    private final Boundary due = new Boundary("boundaries of pairs, events and calls");

    public static void main(String[] args) {
        BoundaryTermsLimitsTest test = new BoundaryTermsLimitsTest();
        test.fourThousandPairs();
        test.threeHundredEvents();
        test.othersCount();
        test.fiveHundredAndTwelveCalls();
        test.due.end();
    }

    private void fourThousandPairs() {
        due.by(TERMS, "There may be 4000 PAIRS");
        Bench bench = Samples.pairs(3999);
        due.is("join() of 3999", bench.join(), 3999);
        due.pair("3999", bench, 3998, 79, 98);
        due.is("pair(3999, 0) of 3999", bench.pair(3999, 0), BAD);
        bench.row(1, 8, 1);
        due.is("join() of 4000", bench.join(), 4000);
        due.pair("4000", bench, 0, 0, 0);
        due.pair("4000", bench, 3949, 78, 49);
        due.pair("4000", bench, 3999, 79, 99);
        due.is("pair(4000, 0) of 4000", bench.pair(4000, 0), BAD);
        bench.row(1, 8, 1);
        due.is("join() of 4001", bench.join(), JoinBench.FULL);
        due.is("pair(3999, 0) of 4001", bench.pair(3999, 0), BAD);
        bench.cut(1, 1);
        due.is("join() of 4000 again", bench.join(), 4000);
        due.pair("4000 again", bench, 3999, 79, 99);
    }

    private void threeHundredEvents() {
        due.by(TERMS, "300 EVENTS are told");
        Bench less = Samples.events299();
        due.is("join()", less.join(), 147);
        due.event("299 events", less, 297, 1, 8, 1, 1, 2);
        due.event("299 events", less, 298, 1, 8, 1, 1, 2);
        due.is("event(299, 0) of 299", less.event(299, 0), BAD);
        Bench all = Samples.events300();
        due.is("join()", all.join(), 340);
        due.event("300 events", all, 0, 3, 0, 52, 52, 104);
        due.event("300 events", all, 298, 0, 2, 0, 0, 0);
        due.event("300 events", all, 299, 1, 2, 7, 7, 14);
        due.is("event(300, 0) of 300", all.event(300, 0), BAD);
        Bench more = Samples.events301();
        due.is("join()", more.join(), 148);
        due.event("301 events", more, 298, 3, 7, 2, 2, 4);
        due.event("301 events", more, 299, 1, 8, 1, 1, 2);
        due.is("event(300, 0) of 301", more.event(300, 0), BAD);
        due.is("event(301, 0) of 301", more.event(301, 0), BAD);
    }

    private void othersCount() {
        due.by(TERMS, "(others count, but are not told)");
        Bench less = Samples.events299();
        less.join();
        due.told("299 events", less, 2606, 2228, 3, 598, 8, 299, 37, 86, 27, 149, 147);
        Bench all = Samples.events300();
        all.join();
        due.told("300 events", all, 780, 676, 14, 286, 8, 300, 269, 8, 0, 23, 340);
        Bench more = Samples.events301();
        more.join();
        due.told("301 events", more, 2622, 2242, 3, 600, 8, 301, 37, 87, 27, 150, 148);
        Bench many = Bench.smallest(8).keys(0, 0, 240).keys(1, 0, 240);
        many.join();
        due.told("395 events", many, 4472, 3768, 3, 1010, 8, 395, 40, 98, 60, 197, 240);
        due.event("395 events", many, 299, 0, 8, 0, 0, 0);
        due.is("event(300, 0) of 395", many.event(300, 0), BAD);
        due.is("event(394, 0) of 395", many.event(394, 0), BAD);
    }

    private void fiveHundredAndTwelveCalls() {
        due.by("What it is", "An object is used for at most 512 calls after it has been made");
        Bench rows = new Bench().keys(0, 0, 500);
        due.is("call 501", rows.row(1, 499, 70), 1);
        due.is("call 502", rows.join(), 1);
        due.is("call 503", rows.pair(0, 0), 499);
        for (int call = 504; call <= 510; call++) {
            due.is("call " + call, rows.row(0, 1, 1), JoinBench.FULL);
        }
        due.is("call 511", rows.join(), 1);
        due.is("call 512", rows.pair(0, 4), 70);
        due.is("calls", rows.calls(), Bench.MOST_CALLS);
        Bench joins = Samples.everyKind();
        while (joins.calls() < Bench.MOST_CALLS - 1) {
            due.is("join " + joins.calls(), joins.join(), 4);
        }
        due.is("READ, call 512", joins.told(0), 22);
    }
}

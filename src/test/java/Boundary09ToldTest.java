/** Promise 9, at its boundaries. */
final class Boundary09ToldTest {
    private static final String PROMISE = "Promise 9: told";

    private final Boundary due = new Boundary("boundaries of told");

    public static void main(String[] args) {
        Boundary09ToldTest test = new Boundary09ToldTest();
        test.beforeAnyJoin();
        test.readAndWritten();
        test.eachKindAlone();
        test.greatestLevel();
        test.mostMemory();
        test.mostDisk();
        test.tooManyPairs();
        test.ofTheLatest();
        test.bad();
        test.due.end();
    }

    private void beforeAnyJoin() {
        due.by(PROMISE, "(-1 before any join)");
        Bench bench = new Bench().rows(0, 1).rows(1, 1);
        due.told("before", bench, 0, 0, 0, 0, -1, 0, 0, 0, 0, 0, 0);
        bench.join();
        due.is("after", bench.told(4), 0);
        bench.cut(0, 1);
        bench.join();
        due.is("after one of nothing", bench.told(4), 0);
    }

    /** Nothing is read of nothing, and nothing is written but by parting. */
    private void readAndWritten() {
        due.by(PROMISE, "what = 0 PAGES READ, 1 WRITTEN");
        Bench bench = Bench.smallest(0).rows(0, 0, 1);
        bench.join();
        due.told("nothing", bench, 0, 0);
        bench.row(1, 0, 0);
        bench.join();
        due.told("within memory", bench, 3, 0);
        bench.row(1, 1, 1);
        bench.join();
        due.told("by blocks", bench, 2 + 2 * 2, 0);
        bench.size(2, 1);
        bench.join();
        due.told("parted", bench, 4 + 2 + 2, 4);
    }

    private void eachKindAlone() {
        due.by(PROMISE, "5 EVENTS, 6 .. 9 those of kind 0 .. 3");
        Bench bench = Bench.smallest(0).rows(0, 0, 1);
        bench.join();
        due.told("nothing", bench, 0, 0, 0, 0, 0, 1, 1, 0, 0, 0, 0);
        bench.row(1, 0, 0);
        bench.join();
        due.told("within memory", bench, 3, 0, 3, 0, 0, 1, 0, 1, 0, 0, 1);
        bench.row(1, 1, 1);
        bench.join();
        due.told("by blocks", bench, 6, 0, 3, 0, 0, 1, 0, 0, 1, 0, 2);
        bench.size(2, 1);
        bench.join();
        due.told("parted", bench, 8, 4, 3, 4, 1, 3, 0, 2, 0, 1, 2);
        Bench every = Samples.everyKind();
        every.join();
        due.told("every kind", every, Samples.everyKindTold());
    }

    /** With 2 parts key 0 goes to part 0, key 1 to part 1; keys 5, 7 to part 0 and then to part 1. */
    private void greatestLevel() {
        due.by(PROMISE, "4 the greatest level of an EVENT");
        Bench nothing = Bench.smallest(8).rows(0, 0, 0).rows(1, 1, 1);
        nothing.join();
        due.told("of nothing", nothing, 4, 4, 3, 4, 1, 3, 2, 0, 0, 1, 0);
        Bench first = Bench.smallest(2).rows(0, 5, 7, 1).rows(1, 5, 7, 1);
        first.join();
        due.told("not of the last one", first, 18, 10, 3, 10, 2, 5, 1, 1, 1, 2, 3);
        first.size(2, 0);
        first.join();
        due.is("PARTINGS 0", first.told(4), 0);
        Bench deep = Bench.smallest(8).rows(0, 0, 34).rows(1, 0, 34);
        deep.join();
        due.is("PARTINGS 8", deep.told(4), 8);
    }

    /** With 3 parts keys 0, 4, 7 go to parts 0, 2, 1. */
    private void mostMemory() {
        due.by(PROMISE, "2 the most pages of memory that it took");
        Bench wider = Bench.of(1, 4, 2).rows(0, 0, 4, 7).rows(1, 0, 4, 7);
        wider.join();
        due.told("4, then 3", wider, 6 + 3 * 2, 6, 4, 6, 1, 4, 0, 3, 0, 1, 3);
        wider.cut(0, 1);
        wider.join();
        due.is("2 pages and 2", wider.told(2), 4);
        wider.cut(0, 1);
        wider.join();
        due.is("1 page and 2", wider.told(2), 3);
        wider.cut(0, 1);
        wider.join();
        due.is("nothing", wider.told(2), 0);
    }

    /** With 2 parts keys 5, 7, 8 go to part 0 and stay together; keys 1, 2 go to part 1 and stay together. */
    private void mostDisk() {
        due.by(PROMISE, "3 the most pages on THE DISK");
        Bench bench = Bench.smallest(2).rows(0, 5, 7, 8, 1, 2).rows(1, 5, 7, 8, 1, 2);
        bench.join();
        due.told("10, 16, 8", bench, 10 + 6 + 12 + 4 + 6, 20, 3, 16, 2, 7, 2, 0, 2, 3, 5);
        bench.size(2, 1);
        bench.join();
        due.is("10", bench.told(3), 10);
        bench.size(2, 0);
        bench.join();
        due.is("none", bench.told(3), 0);
    }

    private void tooManyPairs() {
        due.by(PROMISE, "10 PAIRS (also when they were too many)");
        int[] counts = {3999, 4000, 4001, 4002};
        for (int count : counts) {
            Bench bench = Samples.pairs(count);
            bench.join();
            due.is("told(10) of " + count, bench.told(10), count);
        }
        Bench most = new Bench().sameKey(0, 5, 254).sameKey(1, 5, 254);
        most.join();
        due.is("told(10) of 64516", most.told(10), 64516);
    }

    private void ofTheLatest() {
        due.by(PROMISE, "Of the latest join");
        Bench bench = Samples.everyKind();
        bench.join();
        due.told("joined", bench, Samples.everyKindTold());
        bench.join();
        due.told("joined twice", bench, Samples.everyKindTold());
        bench.cut(0, 3);
        bench.join();
        due.told("joined without LEFT rows", bench, 0, 0, 0, 0, 0, 1, 1, 0, 0, 0, 0);
    }

    private void bad() {
        due.by(PROMISE, "BAD.");
        Bench bench = new Bench();
        int[] others = {-1, 11, 12, 256, 1 << 16, Integer.MIN_VALUE, Integer.MIN_VALUE + 1, Integer.MAX_VALUE};
        for (int what : others) {
            due.is("told(" + what + ") before any join", bench.told(what), JoinBench.BAD);
        }
        bench.rows(0, 1).rows(1, 1);
        bench.join();
        for (int what : others) {
            due.is("told(" + what + ")", bench.told(what), JoinBench.BAD);
        }
        due.is("told(0)", bench.told(0), 2);
        due.is("told(10)", bench.told(10), 1);
    }
}

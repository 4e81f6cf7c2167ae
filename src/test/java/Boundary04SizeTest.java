/** Promise 4, at its boundaries. */
final class Boundary04SizeTest {
    private static final String PROMISE = "Promise 4: size";
    private static final int BAD = JoinBench.BAD;
    private static final int[] LEAST = {1, 3, 0};
    private static final int[] MOST = {16, 20, 8};
    private static final int[] AT_FIRST = {4, 5, 4};

    private final Boundary due = new Boundary("boundaries of size");

    public static void main(String[] args) {
        Boundary04SizeTest test = new Boundary04SizeTest();
        test.becomesN();
        test.anotherWhat();
        for (int what = 0; what < 3; what++) {
            test.nIsNone(what);
        }
        test.due.end();
    }

    private void becomesN() {
        due.by(PROMISE, "PER (what = 0), MEMORY (1), PARTINGS (2) become n: what it was.");
        Bench bench = new Bench();
        for (int what = 0; what < 3; what++) {
            due.is("size(" + what + ", least)", bench.size(what, LEAST[what]), AT_FIRST[what]);
        }
        for (int what = 0; what < 3; what++) {
            due.is("size(" + what + ", most)", bench.size(what, MOST[what]), LEAST[what]);
        }
        for (int what = 0; what < 3; what++) {
            due.is("size(" + what + ", most) again", bench.size(what, MOST[what]), MOST[what]);
        }
        bench.sameKey(0, 1, 17);
        due.is("PER is 16", bench.pages(0), 2);
        due.is("MEMORY is 20", bench.part(0, 1), 7);
    }

    private void anotherWhat() {
        due.by(PROMISE, "BAD: another what");
        Bench bench = new Bench();
        int[] others = {-1, 3, 4, 256, 1 << 16, Integer.MIN_VALUE, Integer.MIN_VALUE + 1, Integer.MAX_VALUE};
        for (int what : others) {
            for (int n = 0; n <= 5; n++) {
                due.is("size(" + what + ", " + n + ")", bench.size(what, n), BAD);
            }
        }
        for (int what = 0; what < 3; what++) {
            due.is("size(" + what + ", 4) was", bench.size(what, 4), AT_FIRST[what]);
        }
    }

    /** Every n from below the least to above the most; a refused one leaves what was. */
    private void nIsNone(int what) {
        due.by(PROMISE, "or n is none.");
        Bench bench = new Bench();
        int was = AT_FIRST[what];
        for (int n = -5; n <= 40; n++) {
            boolean may = n >= LEAST[what] && n <= MOST[what];
            due.is("size(" + what + ", " + n + ")", bench.size(what, n), may ? was : BAD);
            was = may ? n : was;
        }
        int[] far = {256, 260, 1 << 16, Integer.MIN_VALUE, Integer.MIN_VALUE + 4, Integer.MAX_VALUE};
        for (int n : far) {
            due.is("size(" + what + ", " + n + ")", bench.size(what, n), BAD);
        }
        due.is("size(" + what + ", least)", bench.size(what, LEAST[what]), MOST[what]);
        due.is("size(" + what + ", least - 1)", bench.size(what, LEAST[what] - 1), BAD);
        due.is("it stayed", bench.size(what, MOST[what]), LEAST[what]);
    }
}

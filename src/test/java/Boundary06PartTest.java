/** Promise 6, at its boundaries; the hash's own are those of BoundaryTermsHashTest. */
final class Boundary06PartTest {
    private static final String PROMISE = "Promise 6: part";
    private static final int BAD = JoinBench.BAD;

    private final Boundary due = new Boundary("boundaries of part");

    public static void main(String[] args) {
        Boundary06PartTest test = new Boundary06PartTest();
        test.levels();
        test.levelsBeyondPartings();
        test.noSuchLevel();
        test.keysThatLookLikeAnswers();
        test.due.end();
    }

    /** With 19 parts; worked out apart from Java. */
    private void levels() {
        due.by(PROMISE, "The PART of a key at a level (0 .. 8).");
        Bench bench = Bench.of(4, 20, 4);
        due.is("part(1, -1)", bench.part(1, -1), BAD);
        due.is("part(1, 0)", bench.part(1, 0), 9);
        due.is("part(1, 1)", bench.part(1, 1), 16);
        due.is("part(1, 7)", bench.part(1, 7), 12);
        due.is("part(1, 8)", bench.part(1, 8), 16);
        due.is("part(1, 9)", bench.part(1, 9), BAD);
    }

    /** The levels of the call are 0 .. 8, whatever PARTINGS are. */
    private void levelsBeyondPartings() {
        due.by(PROMISE, "The PART of a key at a level (0 .. 8).");
        Bench bench = Bench.of(4, 20, 0);
        due.is("part(1, 1) with PARTINGS 0", bench.part(1, 1), 16);
        due.is("part(1, 8) with PARTINGS 0", bench.part(1, 8), 16);
        due.is("part(1, 9) with PARTINGS 0", bench.part(1, 9), BAD);
        bench.size(2, 8);
        due.is("part(1, 8) with PARTINGS 8", bench.part(1, 8), 16);
        due.is("part(1, 9) with PARTINGS 8", bench.part(1, 9), BAD);
    }

    private void noSuchLevel() {
        due.by(PROMISE, "BAD: no such level.");
        Bench bench = new Bench();
        int[] none = {-1, 9, 10, 256, 1 << 16, Integer.MIN_VALUE, Integer.MIN_VALUE + 1, Integer.MAX_VALUE};
        int[] keys = {0, 1, -1, Integer.MIN_VALUE, Integer.MAX_VALUE};
        for (int level : none) {
            for (int key : keys) {
                due.is("part(" + key + ", " + level + ")", bench.part(key, level), BAD);
            }
        }
    }

    private void keysThatLookLikeAnswers() {
        due.by(PROMISE, "The PART of a key");
        Bench bench = Bench.of(4, 20, 4);
        due.is("part(-1, 0)", bench.part(-1, 0), 13);
        due.is("part(-2, 0)", bench.part(-2, 0), 4);
        bench.rows(0, -1, -2);
        bench.join();
        due.is("part(-1, 0) with rows", bench.part(-1, 0), 13);
        bench.size(1, 3);
        due.is("part(-1, 1) of 2", bench.part(-1, 1), 1);
    }
}

/**
 * Terms: the hash where its numbers wrap, turn negative, or are the least or most there are.
 * The parts were worked out apart from Java, with whole numbers of any length; the keys of the
 * ends were found by going through the hash backwards.
 */
final class BoundaryTermsHashTest {
    private static final String TERMS = "Terms";

    private final Boundary due = new Boundary("boundaries of the hash");

    public static void main(String[] args) {
        BoundaryTermsHashTest test = new BoundaryTermsHashTest();
        test.productsWrap();
        test.levelsWrap();
        test.endsOfKeys();
        test.firstShift();
        test.secondProduct();
        test.secondShift();
        test.partWithoutSign();
        test.moduloMemoryLessOne();
        test.due.end();
    }

    /** Keys 1 and -1 give a product within the ints; keys 2 and -2 do not. */
    private void productsWrap() {
        due.by(TERMS, "both as ints (32 bits, wrapping)");
        levels(1, 9, 16, 3, 18, 17, 3, 13, 12, 16);
        levels(-1, 13, 1, 8, 6, 9, 13, 3, 14, 12);
        levels(2, 0, 0, 14, 11, 13, 6, 12, 11, 17);
        levels(-2, 4, 10, 11, 11, 0, 7, 14, 10, 16);
    }

    /** The levels 0, 1, 2 give a product within the ints, 3 does not; with key -1 the sum wraps from 1 on. */
    private void levelsWrap() {
        due.by(TERMS, "plus the level times 1013904243");
        levels(0, 0, 7, 3, 8, 13, 17, 12, 17, 11);
        levels(-1, 13, 1, 8, 6, 9, 13, 3, 14, 12);
    }

    private void endsOfKeys() {
        due.by(TERMS, "h is the key times -1640531527");
        levels(Integer.MIN_VALUE, 1, 11, 3, 5, 12, 18, 9, 2, 9);
        levels(Integer.MIN_VALUE + 1, 3, 13, 3, 13, 10, 16, 5, 5, 2);
        levels(Integer.MAX_VALUE, 15, 5, 16, 14, 7, 6, 9, 4, 3);
        levels(Integer.MAX_VALUE - 1, 13, 12, 13, 5, 15, 13, 14, 4, 3);
    }

    /** With 19 parts, at the levels 0, 1, .. 8. */
    private void levels(int key, int... want) {
        Bench bench = Bench.of(4, 20, 4);
        for (int level = 0; level < want.length; level++) {
            due.is("part(" + key + ", " + level + ")", bench.part(key, level), want[level]);
        }
    }

    /** What is shifted is 2^31 - 1, the most without a sign; 2^31, the least with one; 2^32 - 1. */
    private void firstShift() {
        due.by(TERMS, "h xor (h shifted right by 15, zeros coming in)");
        memories(1806910327, 0, 0, 1, 0, 0, 4, 3, 0, 4, 0, 3, 4, 11, 10, 10, 8, 4, 4, 15);
        memories(Integer.MIN_VALUE, 0, 0, 2, 0, 3, 2, 5, 0, 5, 8, 8, 8, 4, 12, 8, 8, 16, 14, 1);
        memories(-340573321, 0, 0, 2, 0, 1, 2, 0, 0, 2, 6, 7, 8, 2, 0, 11, 0, 16, 2, 3);
        memories(-917676257, 8, 0, 1, 0, 0, 4, 3, 0, 4, 0, 3, 4, 11, 10, 10, 8, 4, 4, 15);
        memories(-577102936, 8, 0, 2, 0, 3, 2, 5, 0, 5, 8, 8, 8, 4, 12, 8, 8, 16, 14, 1);
    }

    /** What is multiplied is 1 and -1, with a product within the ints; 2 and -2; 2^31 - 1 and -2^31. */
    private void secondProduct() {
        due.by(TERMS, "then h times -2048144777");
        memories(340573321, 0, 1, 0, 1, 2, 3, 0, 1, 0, 7, 2, 9, 1, 7, 12, 9, 13, 9, 10);
        memories(-1009502821, 0, 0, 0, 0, 4, 0, 4, 0, 6, 4, 4, 0, 4, 4, 9, 8, 6, 6, 11);
        memories(681146642, 0, 0, 0, 2, 0, 0, 1, 2, 3, 0, 5, 6, 8, 8, 0, 2, 0, 12, 12);
        memories(-1350076142, 0, 1, 1, 1, 4, 1, 2, 1, 4, 9, 9, 1, 9, 9, 4, 1, 13, 13, 4);
        memories(-675038071, 0, 0, 1, 0, 3, 4, 5, 0, 7, 8, 3, 4, 3, 12, 13, 8, 11, 16, 13);
        memories(1696758034, 0, 0, 0, 0, 2, 0, 3, 0, 3, 2, 5, 0, 10, 10, 12, 0, 13, 12, 4);
    }

    /** As for the first one. */
    private void secondShift() {
        due.by(TERMS, "h xor (h shifted right by 13, zeros coming in)");
        memories(-411260657, 0, 0, 1, 0, 4, 4, 1, 0, 1, 4, 10, 4, 12, 8, 4, 0, 5, 10, 2);
        memories(1696758034, 0, 0, 0, 0, 2, 0, 3, 0, 3, 2, 5, 0, 10, 10, 12, 0, 13, 12, 4);
        memories(-2108018691, 0, 0, 2, 0, 3, 2, 2, 0, 2, 8, 9, 8, 11, 2, 8, 0, 10, 2, 4);
    }

    /** The hash is 0, 2^31 - 1, 2^31 and 2^32 - 1, at level 0 and at level 8. */
    private void partWithoutSign() {
        due.by(TERMS, "Its PART is h without sign (0 .. 2^32 - 1) modulo MEMORY less 1.");
        int[][] keys = {{0, 143814003, 1053740283, 441444190}, {1570380712, 1714194715, -1670846301, 2011824902}};
        for (int i = 0; i < 2; i++) {
            memories(keys[i][0], 8 * i, 0, 0, 0, 0, 0, 0, 0, 0, 0, 0, 0, 0, 0, 0, 0, 0, 0, 0);
            memories(keys[i][1], 8 * i, 1, 1, 3, 2, 1, 1, 7, 1, 7, 1, 7, 10, 1, 7, 15, 8, 1, 2);
            memories(keys[i][2], 8 * i, 0, 2, 0, 3, 2, 2, 0, 2, 8, 2, 8, 11, 2, 8, 0, 9, 2, 3);
            memories(keys[i][3], 8 * i, 1, 0, 3, 0, 3, 3, 7, 3, 5, 3, 3, 8, 3, 0, 15, 0, 3, 5);
        }
    }

    /** With MEMORY 3, 4, .. 20. */
    private void memories(int key, int level, int... want) {
        Bench bench = new Bench();
        for (int i = 0; i < want.length; i++) {
            bench.size(1, 3 + i);
            due.is("part(" + key + ", " + level + ") of " + (2 + i), bench.part(key, level), want[i]);
        }
    }

    /** Of 100 keys each part has some, and none goes beyond the last one. */
    private void moduloMemoryLessOne() {
        due.by(TERMS, "modulo MEMORY less 1");
        for (int memory = 3; memory <= 20; memory++) {
            Bench bench = Bench.of(4, memory, 4);
            boolean[] seen = new boolean[32];
            for (int key = -50; key < 50; key++) {
                int part = bench.part(key, 3);
                due.is("part(" + key + ", 3) is a part", part >= 0 && part < memory - 1 ? 1 : 0, 1);
                seen[part & 31] = true;
            }
            due.is("the last part with MEMORY " + memory, seen[memory - 2] ? 1 : 0, 1);
        }
    }
}

/** Promise 6: the PART of a key at a level, modulo MEMORY less 1. */
final class Promise06PartTest {
    private static final int[] KEYS = {0, 1, -1, 7, Integer.MAX_VALUE, Integer.MIN_VALUE, 123456789};
    private static final int[] LEVELS = {0, 1, 8};
    // Worked out apart from Java, with whole numbers of any length.
    private static final int[] OF_2 = {0, 1, 1, 1, 0, 1, 0, 1, 1, 0, 1, 1, 0, 1, 1, 0, 1, 1, 1, 1, 0};
    private static final int[] OF_4 = {0, 3, 3, 1, 2, 1, 0, 1, 1, 2, 3, 1, 0, 1, 1, 0, 3, 3, 1, 1, 2};
    private static final int[] OF_19 = {
        0, 7, 11, 9, 16, 16, 13, 1, 12, 6, 12, 0, 15, 5, 3, 1, 11, 9, 3, 11, 2};

    public static void main(String[] args) {
        Due due = new Due("promise 6");
        JoinBench bench = new JoinBench();
        parts(due, bench, OF_4);
        bench.size(1, 3);
        parts(due, bench, OF_2);
        bench.size(1, 20);
        parts(due, bench, OF_19);
        bench.size(2, 0);
        parts(due, bench, OF_19);
        int[] none = {-1, 9, Integer.MIN_VALUE, Integer.MAX_VALUE};
        for (int level : none) {
            due.is("part(1, " + level + ")", bench.part(1, level), JoinBench.BAD);
        }
        rowsGoWherePartSays(due);
        due.end();
    }

    private static void parts(Due due, JoinBench bench, int[] want) {
        for (int i = 0; i < want.length; i++) {
            int key = KEYS[i / LEVELS.length];
            int level = LEVELS[i % LEVELS.length];
            due.is("part(" + key + ", " + level + ")", bench.part(key, level), want[i]);
        }
    }

    /** Events 1 .. 19 of a table parted once are its parts, in order. */
    private static void rowsGoWherePartSays(Due due) {
        JoinBench bench = Due.bench(1, 20, 1);
        int[] rows = new int[19];
        for (int i = 0; i < 150; i++) {
            int key = i * 7919 - 300000;
            rows[bench.part(key, 0)]++;
            bench.row(0, key, i);
            bench.row(1, key, i);
        }
        bench.join();
        for (int p = 0; p < 19; p++) {
            due.is("level of event " + (p + 1), bench.event(p + 1, 1), 1);
            due.is("rows in part " + p, bench.event(p + 1, 2), rows[p]);
        }
    }
}

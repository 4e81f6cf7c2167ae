/** Counts the answers that are not as due, and ends a test with exit code 1 if there was one. */
final class Due {
    private final String name;
    private int asked = 0;
    private int wrong = 0;

    Due(String name) {
        this.name = name;
    }

    void is(String call, long got, long want) {
        asked++;
        if (got != want) {
            wrong++;
            System.out.println(name + ": " + call + " answered " + got + ", due is " + want);
        }
    }

    void end() {
        System.out.println(name + ": " + asked + " answers, " + wrong + " not as due");
        if (wrong != 0 || asked == 0) {
            System.exit(1);
        }
    }

    /** A new object with these sizes. */
    static JoinBench bench(int per, int memory, int partings) {
        JoinBench bench = new JoinBench();
        bench.size(0, per);
        bench.size(1, memory);
        bench.size(2, partings);
        return bench;
    }

    /** Rows with these keys; a row's value is the given one and its place in the list. */
    static void rows(JoinBench bench, int table, int value, int... keys) {
        for (int i = 0; i < keys.length; i++) {
            bench.row(table, keys[i], value + i);
        }
    }

    /** So many rows, all with one key. */
    static void sameKey(JoinBench bench, int table, int key, int count) {
        for (int i = 0; i < count; i++) {
            bench.row(table, key, i);
        }
    }

    /**
     * Two small tables whose join, done by hand, has an event of every kind. With 2 parts keys
     * 0, 1, 2 go to parts 0, 1, 1 at level 0, and keys 1, 2 both to part 0 at level 1:
     * event 0 parts 3 and 4 rows; 1 joins part 0 within memory; 2 parts part 1 anew; 3 joins
     * its part 0 by blocks, as level 2 is that of PARTINGS; 4 is its part 1, without rows.
     */
    static JoinBench everyKind() {
        JoinBench bench = bench(1, 3, 2);
        rows(bench, 0, 10, 1, 0, 2);
        rows(bench, 1, 20, 0, 2, 1, 1);
        return bench;
    }

    /** Far more than 300 events: 240 keys on either side, one row in a block, 2 parts. */
    static JoinBench manyEvents() {
        JoinBench bench = bench(1, 3, 8);
        for (int i = 0; i < 240; i++) {
            bench.row(0, i, i);
            bench.row(1, i, i);
        }
        return bench;
    }
}

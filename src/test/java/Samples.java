/** Tables whose join has as many PAIRS or EVENTS as a limit, one less or one more. */
final class Samples {
    private Samples() {
    }

    /**
     * All within memory, LEFT held: 79 rows and 50 of one key make 3950 PAIRS, in RIGHT's order;
     * then a row and RIGHT's last ones, of another key, make as many as those are.
     */
    static Bench pairs(int count) {
        return Bench.of(16, 20, 4).sameKey(0, 9, 79).sameKey(0, 8, 1).sameKey(1, 9, 50).sameKey(1, 8, count - 3950);
    }

    /** 2 parts, 149 partings; where the events come from was counted apart from Java. */
    static Bench events299() {
        return Bench.smallest(8).keys(0, 0, 147).keys(1, 0, 147);
    }

    /**
     * 13 parts, 23 partings: three times two keys that share a part at the levels 0 .. 6 make 7
     * partings each below the first one, and keys 8 and 61, which share only the last part of level 0, one.
     */
    static Bench events300() {
        Bench bench = Bench.of(1, 14, 8);
        int[] keys = {1712, 6907, 10660, 13420, 2350, 20689, 8, 61};
        for (int table = 0; table < 2; table++) {
            for (int i = 0; i < keys.length; i++) {
                bench.sameKey(table, keys[i], i % 2 == 0 ? 7 : 6);
            }
        }
        return bench;
    }

    /** 2 parts, 150 partings. */
    static Bench events301() {
        return events299().keys(0, 148, 149).keys(1, 148, 149);
    }

    /**
     * An event of every kind, with 2 parts. Keys 0, 1, 2 go to parts 0, 1, 1 at level 0, and keys
     * 1, 2 both to part 0 at level 1: event 0 parts 3 and 4 rows; 1 joins part 0 within memory; 2
     * parts part 1 anew; 3 joins its part 0 by blocks; 4 is its part 1, without rows.
     */
    static Bench everyKind() {
        return Bench.smallest(2).rows(0, 1, 0, 2).rows(1, 0, 2, 1, 1);
    }

    /** What told(0), told(1), .. answer of it. */
    static int[] everyKindTold() {
        return new int[] {22, 12, 3, 10, 2, 5, 1, 1, 1, 2, 4};
    }
}

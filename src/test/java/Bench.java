/** A JoinBench that counts its calls: nothing is promised beyond the 512th, so no test may rest on that. */
final class Bench {
    static final int MOST_CALLS = 512;

    private final JoinBench bench = new JoinBench();
    private int calls = 0;

    static Bench of(int per, int memory, int partings) {
        Bench made = new Bench();
        made.size(0, per);
        made.size(1, memory);
        made.size(2, partings);
        return made;
    }

    /** One row a page, one page a block, 2 parts: each row more is a page more. */
    static Bench smallest(int partings) {
        return of(1, 3, partings);
    }

    /** Rows with these keys; a row's value is ten times its place, less 1. */
    Bench rows(int table, int... keys) {
        for (int i = 0; i < keys.length; i++) {
            row(table, keys[i], 10 * i - 1);
        }
        return this;
    }

    Bench sameKey(int table, int key, int count) {
        for (int i = 0; i < count; i++) {
            row(table, key, i);
        }
        return this;
    }

    /** Rows with the keys from .. to - 1. */
    Bench keys(int table, int from, int to) {
        for (int key = from; key < to; key++) {
            row(table, key, key);
        }
        return this;
    }

    int row(int table, int key, int value) {
        return counted().row(table, key, value);
    }

    int cut(int table, int n) {
        return counted().cut(table, n);
    }

    int size(int what, int n) {
        return counted().size(what, n);
    }

    int pages(int table) {
        return counted().pages(table);
    }

    int part(int key, int level) {
        return counted().part(key, level);
    }

    int join() {
        return counted().join();
    }

    int pair(int i, int what) {
        return counted().pair(i, what);
    }

    int told(int what) {
        return counted().told(what);
    }

    int event(int i, int what) {
        return counted().event(i, what);
    }

    int calls() {
        return calls;
    }

    private JoinBench counted() {
        calls++;
        if (calls > MOST_CALLS) {
            throw new IllegalStateException("nothing is promised of call " + calls);
        }
        return bench;
    }
}

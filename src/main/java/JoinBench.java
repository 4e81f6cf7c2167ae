import java.util.Arrays;

/**
 * A join of two tables that do not fit a memory of some pages. Every array is made by the
 * constructor and used again by each join: no call but the constructor makes an object.
 */
public final class JoinBench {
    public static final int BAD = -1;
    public static final int FULL = -2;

    private static final int MOST_ROWS = 500;
    private static final int MOST_PAIRS = 4000;
    private static final int MOST_EVENTS_TOLD = 300;
    private static final int MOST_MEMORY = 20;
    private static final int MOST_PARTS = MOST_MEMORY - 1;
    private static final int MOST_PARTINGS = 8;

    /** A row's number fits these bits, so that one int holds it and another small number. */
    private static final int ROW_BITS = 9;
    private static final int ROW_MASK = (1 << ROW_BITS) - 1;

    private static final int NOTHING = 0;
    private static final int WITHIN_MEMORY = 1;
    private static final int BY_BLOCKS = 2;
    private static final int PARTED = 3;

    private final Sizes sizes;
    private final Table leftTable;
    private final Table rightTable;
    private final Report report;
    private final Joiner joiner;

    public JoinBench() {
        sizes = new Sizes();
        leftTable = new Table();
        rightTable = new Table();
        report = new Report();
        joiner = new Joiner(sizes, report);
    }

    public int row(int table, int key, int value) {
        Table chosen = tableOf(table);
        return chosen == null ? BAD : chosen.add(key, value);
    }

    public int cut(int table, int n) {
        Table chosen = tableOf(table);
        return chosen == null ? BAD : chosen.drop(n);
    }

    public int size(int what, int n) {
        return sizes.change(what, n);
    }

    public int pages(int table) {
        Table chosen = tableOf(table);
        return chosen == null ? BAD : sizes.pagesFor(chosen.count);
    }

    public int part(int key, int level) {
        if (level < 0 || level > MOST_PARTINGS) {
            return BAD;
        }
        return sizes.partOf(key, level);
    }

    public int join() {
        joiner.joinTables(leftTable, rightTable);
        return report.pairsOrFull();
    }

    public int pair(int i, int what) {
        if (!report.hasPair(i)) {
            return BAD;
        }
        int leftRow = report.leftRowOf(i);
        int rightRow = report.rightRowOf(i);
        switch (what) {
            case 0:
                return leftRow;
            case 1:
                return rightRow;
            case 2:
                return joiner.left.keyOf(leftRow);
            case 3:
                return joiner.left.valueOf(leftRow);
            case 4:
                return joiner.right.valueOf(rightRow);
            default:
                return BAD;
        }
    }

    public int told(int what) {
        return report.figure(what);
    }

    public int event(int i, int what) {
        return report.ofEvent(i, what);
    }

    private Table tableOf(int table) {
        if (table == 0) {
            return leftTable;
        }
        return table == 1 ? rightTable : null;
    }

    /** PER, MEMORY and PARTINGS, and what follows from them alone. */
    private static final class Sizes {
        private static final int PER = 0;
        private static final int MEMORY = 1;
        private static final int PARTINGS = 2;
        private static final int[] LEAST = {1, 3, 0};
        private static final int[] MOST = {16, MOST_MEMORY, MOST_PARTINGS};
        private static final int[] AT_FIRST = {4, 5, 4};

        private final int[] now;

        Sizes() {
            now = AT_FIRST.clone();
        }

        int change(int what, int n) {
            if (what < 0 || what >= now.length || n < LEAST[what] || n > MOST[what]) {
                return BAD;
            }
            int was = now[what];
            now[what] = n;
            return was;
        }

        int memory() {
            return now[MEMORY];
        }

        int partings() {
            return now[PARTINGS];
        }

        int parts() {
            return now[MEMORY] - 1;
        }

        /** One page of memory is for the rows that pass by, one for the pairs. */
        int blockPages() {
            return now[MEMORY] - 2;
        }

        int blockRows() {
            return blockPages() * now[PER];
        }

        int pagesFor(int rows) {
            int per = now[PER];
            return per < 1 ? 0 : (rows + per - 1) / per;
        }

        int partOf(int key, int level) {
            long unsigned = hashOf(key, level) & 0xFFFFFFFFL;
            int parts = parts();
            return parts < 1 ? 0 : (int) (unsigned % parts);
        }

        private static int hashOf(int key, int level) {
            int h = key * -1640531527 + level * 1013904243;
            h ^= h >>> 15;
            h *= -2048144777;
            return h ^ (h >>> 13);
        }
    }

    /** The rows of LEFT or RIGHT as they come and go. */
    private static final class Table {
        private final int[] keys;
        private final int[] values;
        private int count;

        Table() {
            keys = new int[MOST_ROWS];
            values = new int[MOST_ROWS];
            count = 0;
        }

        int add(int key, int value) {
            if (count >= MOST_ROWS) {
                return FULL;
            }
            keys[count] = key;
            values[count] = value;
            count++;
            return count;
        }

        int drop(int n) {
            if (n < 0 || n > count) {
                return BAD;
            }
            count -= n;
            return count;
        }
    }

    /** What the latest join came to: its figures, its events and its pairs. */
    private static final class Report {
        private static final int READ = 0;
        private static final int WRITTEN = 1;
        private static final int MEMORY_TAKEN = 2;
        private static final int DISK_TAKEN = 3;
        private static final int DEEPEST = 4;
        private static final int EVENTS = 5;
        private static final int OF_KIND = 6;
        private static final int PAIRS = 10;
        private static final int FIGURES = 11;
        private static final int EVENT_FIGURES = 5;

        private final int[] figures;
        private final int[] events;
        private final int[] pairs;
        private int onDisk;

        Report() {
            figures = new int[FIGURES];
            figures[DEEPEST] = -1;
            events = new int[MOST_EVENTS_TOLD * EVENT_FIGURES];
            pairs = new int[MOST_PAIRS];
            onDisk = 0;
        }

        void beginAnew() {
            Arrays.fill(figures, 0);
            onDisk = 0;
        }

        void addEvent(int kind, int level, int leftRows, int rightRows, int read) {
            int number = figures[EVENTS];
            if (number < MOST_EVENTS_TOLD) {
                int at = number * EVENT_FIGURES;
                events[at] = kind;
                events[at + 1] = level;
                events[at + 2] = leftRows;
                events[at + 3] = rightRows;
                events[at + 4] = read;
            }
            figures[EVENTS]++;
            figures[OF_KIND + kind]++;
            figures[READ] += read;
            figures[DEEPEST] = Math.max(figures[DEEPEST], level);
        }

        void takeMemory(int pages) {
            figures[MEMORY_TAKEN] = Math.max(figures[MEMORY_TAKEN], pages);
        }

        void writeToDisk(int pages) {
            figures[WRITTEN] += pages;
            onDisk += pages;
            figures[DISK_TAKEN] = Math.max(figures[DISK_TAKEN], onDisk);
        }

        void freeDisk(int pages) {
            onDisk -= pages;
        }

        /** Pairs beyond the most are only counted: then none is told. */
        void addPair(int leftRow, int rightRow) {
            int number = figures[PAIRS];
            if (number < MOST_PAIRS) {
                pairs[number] = leftRow << ROW_BITS | rightRow;
            }
            figures[PAIRS]++;
        }

        int pairsOrFull() {
            return figures[PAIRS] > MOST_PAIRS ? FULL : figures[PAIRS];
        }

        boolean hasPair(int i) {
            return i >= 0 && i < pairsOrFull();
        }

        int leftRowOf(int i) {
            return hasPair(i) ? pairs[i] >> ROW_BITS : BAD;
        }

        int rightRowOf(int i) {
            return hasPair(i) ? pairs[i] & ROW_MASK : BAD;
        }

        int figure(int what) {
            return what < 0 || what >= FIGURES ? BAD : figures[what];
        }

        int ofEvent(int i, int what) {
            if (i < 0 || i >= Math.min(figures[EVENTS], MOST_EVENTS_TOLD)) {
                return BAD;
            }
            if (what < 0 || what >= EVENT_FIGURES) {
                return BAD;
            }
            return events[i * EVENT_FIGURES + what];
        }
    }

    /**
     * A table as it was when it was joined, and the order in which its rows lie: a part is a
     * stretch of places, and parting it anew moves rows within that stretch alone.
     */
    private static final class Side {
        private final Sizes sizes;
        private final boolean isLeft;
        private final int[] keys;
        private final int[] values;
        private final int[] order;
        private final int[] spare;
        private final int[] partEnds;
        private int count;

        Side(Sizes sizes, boolean isLeft) {
            this.sizes = sizes;
            this.isLeft = isLeft;
            keys = new int[MOST_ROWS];
            values = new int[MOST_ROWS];
            order = new int[MOST_ROWS];
            spare = new int[MOST_ROWS];
            partEnds = new int[MOST_PARTINGS * MOST_PARTS];
            count = 0;
        }

        void copyOf(Table table) {
            count = table.count;
            System.arraycopy(table.keys, 0, keys, 0, count);
            System.arraycopy(table.values, 0, values, 0, count);
            for (int i = 0; i < count; i++) {
                order[i] = i;
            }
        }

        int keyOf(int row) {
            return row < 0 || row >= count ? BAD : keys[row];
        }

        int valueOf(int row) {
            return row < 0 || row >= count ? BAD : values[row];
        }

        int rowAt(int place) {
            return place < 0 || place >= count ? BAD : order[place];
        }

        int keyAt(int place) {
            return place < 0 || place >= count ? BAD : keys[order[place]];
        }

        boolean hasOnlyKey(int key, int from, int to) {
            for (int i = from; i < to; i++) {
                if (keyAt(i) != key) {
                    return false;
                }
            }
            return true;
        }

        /** Lays the rows of a stretch part by part, each part in order: how many pages these take. */
        int layInParts(int from, int to, int level) {
            if (from < 0 || to > count || level < 0 || level >= MOST_PARTINGS) {
                return 0;
            }
            for (int i = from; i < to; i++) {
                spare[i] = sizes.partOf(keyAt(i), level) << ROW_BITS | order[i];
            }
            int pages = 0;
            int next = from;
            for (int p = 0; p < sizes.parts(); p++) {
                int begin = next;
                for (int i = from; i < to; i++) {
                    if (spare[i] >> ROW_BITS == p && next < to) {
                        order[next] = spare[i] & ROW_MASK;
                        next++;
                    }
                }
                partEnds[level * MOST_PARTS + p] = next;
                pages += sizes.pagesFor(next - begin);
            }
            return pages;
        }

        int partEnd(int level, int p) {
            if (level < 0 || level >= MOST_PARTINGS || p < 0 || p >= MOST_PARTS) {
                return 0;
            }
            return partEnds[level * MOST_PARTS + p];
        }
    }

    /** Joins stretches of rows of both sides, from .. to - 1 each, and reports it. */
    private static final class Joiner {
        private final Sizes sizes;
        private final Report report;
        private final Side left;
        private final Side right;

        Joiner(Sizes sizes, Report report) {
            this.sizes = sizes;
            this.report = report;
            left = new Side(sizes, true);
            right = new Side(sizes, false);
        }

        void joinTables(Table leftTable, Table rightTable) {
            left.copyOf(leftTable);
            right.copyOf(rightTable);
            report.beginAnew();
            joinRows(0, left.count, 0, right.count, 0);
        }

        private void joinRows(int leftFrom, int leftTo, int rightFrom, int rightTo, int level) {
            int kind = kindOf(leftFrom, leftTo, rightFrom, rightTo, level);
            if (kind == NOTHING) {
                report.addEvent(kind, level, leftTo - leftFrom, rightTo - rightFrom, 0);
            } else if (kind == PARTED) {
                joinParts(leftFrom, leftTo, rightFrom, rightTo, level);
            } else {
                int read = joinBlocks(leftFrom, leftTo, rightFrom, rightTo);
                report.addEvent(kind, level, leftTo - leftFrom, rightTo - rightFrom, read);
            }
        }

        private int kindOf(int leftFrom, int leftTo, int rightFrom, int rightTo, int level) {
            int fewerRows = Math.min(leftTo - leftFrom, rightTo - rightFrom);
            if (fewerRows <= 0) {
                return NOTHING;
            }
            if (sizes.pagesFor(fewerRows) <= sizes.blockPages()) {
                return WITHIN_MEMORY;
            }
            if (level >= sizes.partings()) {
                return BY_BLOCKS;
            }
            int key = left.keyAt(leftFrom);
            boolean oneKey = left.hasOnlyKey(key, leftFrom, leftTo)
                    && right.hasOnlyKey(key, rightFrom, rightTo);
            return oneKey ? BY_BLOCKS : PARTED;
        }

        /** Serves within memory, too: there the lesser side is one block. How many pages were read. */
        private int joinBlocks(int leftFrom, int leftTo, int rightFrom, int rightTo) {
            int leftPages = sizes.pagesFor(leftTo - leftFrom);
            int rightPages = sizes.pagesFor(rightTo - rightFrom);
            report.takeMemory(Math.min(sizes.blockPages(), Math.min(leftPages, rightPages)) + 2);
            if (leftPages <= rightPages) {
                int blocks = passBlocks(left, leftFrom, leftTo, right, rightFrom, rightTo);
                return leftPages + blocks * rightPages;
            }
            int blocks = passBlocks(right, rightFrom, rightTo, left, leftFrom, leftTo);
            return rightPages + blocks * leftPages;
        }

        /** Passes the other side's rows by each block of the held side's: how many blocks there were. */
        private int passBlocks(Side held, int from, int to, Side other, int otherFrom, int otherTo) {
            int step = Math.max(1, sizes.blockRows());
            int blocks = 0;
            for (int at = from; at < to; at += step) {
                matchRows(held, at, Math.min(at + step, to), other, otherFrom, otherTo);
                blocks++;
            }
            return blocks;
        }

        private void matchRows(Side held, int from, int to, Side other, int otherFrom, int otherTo) {
            for (int i = otherFrom; i < otherTo; i++) {
                int key = other.keyAt(i);
                int otherRow = other.rowAt(i);
                for (int j = from; j < to; j++) {
                    if (held.keyAt(j) != key) {
                        continue;
                    }
                    if (held.isLeft) {
                        report.addPair(held.rowAt(j), otherRow);
                    } else {
                        report.addPair(otherRow, held.rowAt(j));
                    }
                }
            }
        }

        /** Ends: kindOf parts at levels below PARTINGS alone, and each part is joined a level deeper. */
        private void joinParts(int leftFrom, int leftTo, int rightFrom, int rightTo, int level) {
            int leftRows = leftTo - leftFrom;
            int rightRows = rightTo - rightFrom;
            int read = sizes.pagesFor(leftRows) + sizes.pagesFor(rightRows);
            report.addEvent(PARTED, level, leftRows, rightRows, read);
            report.takeMemory(sizes.memory());
            report.writeToDisk(left.layInParts(leftFrom, leftTo, level)
                    + right.layInParts(rightFrom, rightTo, level));
            int leftAt = leftFrom;
            int rightAt = rightFrom;
            for (int p = 0; p < sizes.parts(); p++) {
                int leftEnd = left.partEnd(level, p);
                int rightEnd = right.partEnd(level, p);
                joinRows(leftAt, leftEnd, rightAt, rightEnd, level + 1);
                report.freeDisk(sizes.pagesFor(leftEnd - leftAt) + sizes.pagesFor(rightEnd - rightAt));
                leftAt = leftEnd;
                rightAt = rightEnd;
            }
        }
    }
}

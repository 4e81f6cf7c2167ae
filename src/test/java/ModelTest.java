import java.util.ArrayList;
import java.util.List;

/** Long runs of calls beside a model that follows the document's words and shares no code with the class. */
final class ModelTest {
    private static final int RUNS = 600;
    private static final int CALLS = 512;

    private long seed = 20261115;
    private final Due due = new Due("model");

    public static void main(String[] args) {
        ModelTest test = new ModelTest();
        for (int run = 0; run < RUNS; run++) {
            test.run(run);
        }
        test.fullTables(1);
        test.fullTables(40);
        test.fullTables(2000);
        test.due.end();
    }

    private int next(int bound) {
        seed = seed * 6364136223846793005L + 1442695040888963407L;
        return (int) ((seed >>> 33) % bound);
    }

    private void run(int number) {
        JoinBench bench = new JoinBench();
        Model model = new Model();
        String name = "run " + number + ": ";
        int keys = 1 + next(next(2) == 0 ? 6 : 200);
        int rows = 30 + next(440);
        int[][] sizes = {{1 + next(4), 1 + next(16)}, {3 + next(3), 3 + next(18)}, {next(9), 8}};
        for (int what = 0; what < 3; what++) {
            int n = sizes[what][next(2)];
            due.is(name + "size", bench.size(what, n), model.size(what, n));
        }
        for (int i = 0; i < rows; i++) {
            int table = next(5) == 0 ? 0 : next(2);
            // Most rows of some runs have one key, so that parting does not help.
            int key = number % 3 == 0 && next(10) != 0 ? 4 : next(keys) * (number % 2 == 0 ? 1 : -77777777);
            due.is(name + "row", bench.row(table, key, i), model.row(table, key, i));
        }
        for (int calls = rows + 3; calls < CALLS; calls++) {
            oneCall(name, bench, model, keys);
        }
    }

    /** 500 rows on either side, which no run of 512 calls has: it must not throw all the same. */
    private void fullTables(int keys) {
        JoinBench bench = new JoinBench();
        Model model = new Model();
        for (int i = 0; i < 1000; i++) {
            int key = next(keys);
            due.is("full: row", bench.row(i % 2, key, i), model.row(i % 2, key, i));
        }
        int[][] sizes = {{1, 3, 8}, {1, 3, 0}, {1, 20, 8}, {16, 3, 8}, {16, 20, 8}, {3, 7, 1}};
        for (int[] size : sizes) {
            for (int what = 0; what < 3; what++) {
                due.is("full: size", bench.size(what, size[what]), model.size(what, size[what]));
            }
            joinAndCompare("full: ", bench, model);
        }
    }

    private void oneCall(String name, JoinBench bench, Model model, int keys) {
        int table = next(9) == 0 ? next(5) - 2 : next(2);
        int small = next(14) - 1;
        switch (next(12)) {
            case 0 -> due.is(name + "row", bench.row(table, small, keys), model.row(table, small, keys));
            case 1 -> due.is(name + "cut", bench.cut(table, small), model.cut(table, small));
            case 2 -> {
                int n = next(24) - 1;
                due.is(name + "size", bench.size(small % 4, n), model.size(small % 4, n));
            }
            case 3 -> due.is(name + "pages", bench.pages(table), model.pages(table));
            case 4 -> {
                int key = next(2) == 0 ? small : (int) seed;
                due.is(name + "part", bench.part(key, small), model.part(key, small));
            }
            case 5, 6 -> joinAndCompare(name, bench, model);
            case 7, 8 -> pairCall(name, bench, model, next(4100) - 1, next(7) - 1);
            case 9 -> due.is(name + "told(" + small + ")", bench.told(small), model.told(small));
            default -> eventCall(name, bench, model, next(320) - 1, next(7) - 1);
        }
    }

    /** The due answers to every question that a join leaves. */
    private void joinAndCompare(String name, JoinBench bench, Model model) {
        due.is(name + "join()", bench.join(), model.join());
        for (int what = 0; what <= 10; what++) {
            due.is(name + "told(" + what + ")", bench.told(what), model.told(what));
        }
        for (int i = 0; i <= Math.min(model.events.size(), 301); i++) {
            for (int what = 0; what < 5; what++) {
                eventCall(name, bench, model, i, what);
            }
        }
        for (int i = 0; i <= model.pairs.size(); i++) {
            for (int what = 0; what < 5; what++) {
                pairCall(name, bench, model, i, what);
            }
        }
    }

    private void eventCall(String name, JoinBench bench, Model model, int i, int what) {
        due.is(name + "event(" + i + ", " + what + ")", bench.event(i, what), model.event(i, what));
    }

    private void pairCall(String name, JoinBench bench, Model model, int i, int what) {
        due.is(name + "pair(" + i + ", " + what + ")", bench.pair(i, what), model.pair(i, what));
    }

    private record Row(int number, int key, int value) { }

    /** Lists of rows, made anew for every part: slow and plain. */
    private static final class Model {
        private final List<List<Row>> tables = List.of(new ArrayList<>(), new ArrayList<>());
        private int per = 4;
        private int memory = 5;
        private int partings = 4;
        private List<int[]> pairs = new ArrayList<>();
        private List<int[]> events = new ArrayList<>();
        private int read;
        private int written;
        private int memoryTaken;
        private int disk;
        private int diskTaken;
        private int made;

        int row(int table, int key, int value) {
            if (table != 0 && table != 1) {
                return -1;
            }
            List<Row> rows = tables.get(table);
            if (rows.size() == 500) {
                return -2;
            }
            rows.add(new Row(rows.size(), key, value));
            return rows.size();
        }

        int cut(int table, int n) {
            if (table != 0 && table != 1 || n < 0 || n > tables.get(table).size()) {
                return -1;
            }
            List<Row> rows = tables.get(table);
            rows.subList(rows.size() - n, rows.size()).clear();
            return rows.size();
        }

        int size(int what, int n) {
            int was = -1;
            if (what == 0 && n >= 1 && n <= 16) {
                was = per;
                per = n;
            } else if (what == 1 && n >= 3 && n <= 20) {
                was = memory;
                memory = n;
            } else if (what == 2 && n >= 0 && n <= 8) {
                was = partings;
                partings = n;
            }
            return was;
        }

        int pages(int table) {
            return table != 0 && table != 1 ? -1 : pagesOf(tables.get(table));
        }

        int pagesOf(List<Row> rows) {
            int pages = 0;
            for (int i = 0; i < rows.size(); i += per) {
                pages++;
            }
            return pages;
        }

        int part(int key, int level) {
            if (level < 0 || level > 8) {
                return -1;
            }
            int h = key * -1640531527 + level * 1013904243;
            h = h ^ (h >>> 15);
            h = h * -2048144777;
            h = h ^ (h >>> 13);
            return Integer.remainderUnsigned(h, memory - 1);
        }

        int join() {
            pairs = new ArrayList<>();
            events = new ArrayList<>();
            read = 0;
            written = 0;
            memoryTaken = 0;
            disk = 0;
            diskTaken = 0;
            joinAt(0, tables.get(0), tables.get(1));
            made = pairs.size();
            if (made > 4000) {
                pairs.clear();
                return -2;
            }
            return made;
        }

        private void joinAt(int level, List<Row> left, List<Row> right) {
            int lp = pagesOf(left);
            int rp = pagesOf(right);
            List<Row> lesser = lp <= rp ? left : right;
            List<Row> other = lp <= rp ? right : left;
            int[] event = {0, level, left.size(), right.size(), 0};
            events.add(event);
            if (left.isEmpty() || right.isEmpty()) {
                return;
            }
            if (pagesOf(lesser) <= memory - 2) {
                event[0] = 1;
                event[4] = lp + rp;
                memoryTaken = Math.max(memoryTaken, pagesOf(lesser) + 2);
                pairUp(lesser, other, lesser == left);
            } else if (level == partings || oneKey(left, right)) {
                event[0] = 2;
                event[4] = pagesOf(lesser);
                int block = (memory - 2) * per;
                for (int at = 0; at < lesser.size(); at += block) {
                    List<Row> held = lesser.subList(at, Math.min(lesser.size(), at + block));
                    event[4] += pagesOf(other);
                    memoryTaken = Math.max(memoryTaken, pagesOf(held) + 2);
                    pairUp(held, other, lesser == left);
                }
            } else {
                event[0] = 3;
                event[4] = lp + rp;
                memoryTaken = memory;
                joinParts(level, split(left, level), split(right, level));
            }
            read += event[4];
        }

        private void joinParts(int level, List<List<Row>> left, List<List<Row>> right) {
            int pages = 0;
            for (int p = 0; p < memory - 1; p++) {
                pages += pagesOf(left.get(p)) + pagesOf(right.get(p));
            }
            written += pages;
            disk += pages;
            diskTaken = Math.max(diskTaken, disk);
            for (int p = 0; p < memory - 1; p++) {
                joinAt(level + 1, left.get(p), right.get(p));
                disk -= pagesOf(left.get(p)) + pagesOf(right.get(p));
            }
        }

        private List<List<Row>> split(List<Row> rows, int level) {
            List<List<Row>> parts = new ArrayList<>();
            for (int p = 0; p < memory - 1; p++) {
                parts.add(new ArrayList<>());
            }
            for (Row row : rows) {
                parts.get(part(row.key(), level)).add(row);
            }
            return parts;
        }

        private static boolean oneKey(List<Row> left, List<Row> right) {
            int key = left.get(0).key();
            return left.stream().allMatch(r -> r.key() == key) && right.stream().allMatch(r -> r.key() == key);
        }

        private void pairUp(List<Row> held, List<Row> other, boolean heldIsLeft) {
            for (Row passing : other) {
                for (Row row : held) {
                    if (row.key() == passing.key()) {
                        Row left = heldIsLeft ? row : passing;
                        Row right = heldIsLeft ? passing : row;
                        pairs.add(new int[] {left.number(), right.number(), row.key(), left.value(), right.value()});
                    }
                }
            }
        }

        int pair(int i, int what) {
            return i < 0 || i >= pairs.size() || what < 0 || what > 4 ? -1 : pairs.get(i)[what];
        }

        int event(int i, int what) {
            boolean told = i >= 0 && i < events.size() && i < 300 && what >= 0 && what <= 4;
            return told ? events.get(i)[what] : -1;
        }

        int told(int what) {
            return switch (what) {
                case 0 -> read;
                case 1 -> written;
                case 2 -> memoryTaken;
                case 3 -> diskTaken;
                case 4 -> events.stream().mapToInt(e -> e[1]).max().orElse(-1);
                case 5 -> events.size();
                case 6, 7, 8, 9 -> (int) events.stream().filter(e -> e[0] == what - 6).count();
                case 10 -> made;
                default -> -1;
            };
        }
    }
}

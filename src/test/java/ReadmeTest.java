import java.io.IOException;
import java.lang.reflect.Method;
import java.lang.reflect.Modifier;
import java.nio.file.Files;
import java.nio.file.Path;
import java.util.ArrayList;
import java.util.Arrays;
import java.util.List;
import java.util.Set;
import java.util.TreeSet;
import java.util.regex.Matcher;
import java.util.regex.Pattern;

/** README.md says of the class's use what the class answers. */
final class ReadmeTest {
    private static final Pattern NEW = Pattern.compile("JoinBench bench = new JoinBench\\(\\);");
    private static final Pattern CALL =
        Pattern.compile("bench\\.(\\w+)\\(([-\\d, ]*)\\); +// (-?\\d+|BAD|FULL)(:.*)?");

    private final Due due = new Due("readme");
    private final List<String> lines;
    private final Set<String> shown = new TreeSet<>();

    private ReadmeTest(List<String> lines) {
        this.lines = lines;
    }

    public static void main(String[] args) throws IOException, ReflectiveOperationException {
        ReadmeTest test = new ReadmeTest(Files.readAllLines(Path.of("README.md")));
        test.examples();
        test.everyMethodIsShown();
        test.constants();
        test.sizes();
        test.limits();
        test.due.end();
    }

    /** An example is a block of Java; each begins with an object of its own. */
    private void examples() throws ReflectiveOperationException {
        JoinBench bench = null;
        boolean inside = false;
        for (String line : lines) {
            if (line.startsWith("```")) {
                inside = line.equals("```java");
                bench = null;
            } else if (inside && NEW.matcher(line).matches()) {
                bench = new JoinBench();
            } else if (inside) {
                example(bench, line);
            }
        }
    }

    private void example(JoinBench bench, String line) throws ReflectiveOperationException {
        Matcher call = CALL.matcher(line);
        boolean read = bench != null && call.matches();
        due.is("an answer can be read from: " + line, read ? 1 : 0, 1);
        if (read) {
            due.is(line, answer(bench, call.group(1), call.group(2)), number(call.group(3)));
            shown.add(call.group(1));
        }
    }

    private static int answer(JoinBench bench, String name, String arguments) throws ReflectiveOperationException {
        Object[] numbers = Pattern.compile("-?\\d+").matcher(arguments).results()
            .map(found -> (Object) Integer.valueOf(found.group())).toArray();
        Class<?>[] types = new Class<?>[numbers.length];
        Arrays.fill(types, int.class);
        return (int) JoinBench.class.getMethod(name, types).invoke(bench, numbers);
    }

    private static int number(String text) {
        if (text.equals("BAD")) {
            return JoinBench.BAD;
        }
        return text.equals("FULL") ? JoinBench.FULL : Integer.parseInt(text);
    }

    private void everyMethodIsShown() {
        for (Method method : JoinBench.class.getDeclaredMethods()) {
            if (Modifier.isPublic(method.getModifiers())) {
                due.is("an example of " + method.getName(), shown.contains(method.getName()) ? 1 : 0, 1);
            }
        }
    }

    private void constants() {
        String text = String.join("\n", lines);
        due.is("BAD is named", text.contains("`JoinBench.BAD` (" + JoinBench.BAD + ")") ? 1 : 0, 1);
        due.is("FULL is named", text.contains("`JoinBench.FULL` (" + JoinBench.FULL + ")") ? 1 : 0, 1);
    }

    private void sizes() {
        List<String[]> rows = table("| what |");
        due.is("sizes", rows.size(), 3);
        for (String[] row : rows) {
            int what = Integer.parseInt(row[0]);
            int least = Integer.parseInt(row[2]);
            int most = Integer.parseInt(row[3]);
            Bench bench = new Bench();
            due.is(row[1] + " below the least", bench.size(what, least - 1), JoinBench.BAD);
            due.is(row[1] + " above the most", bench.size(what, most + 1), JoinBench.BAD);
            due.is(row[1] + " at first", bench.size(what, least), Integer.parseInt(row[4]));
            due.is(row[1] + " at the least", bench.size(what, most), least);
            due.is(row[1] + " at the most", bench.size(what, least), most);
        }
    }

    private void limits() {
        List<String[]> rows = table("| of |");
        due.is("limits", rows.size(), 5);
        for (String[] row : rows) {
            int most = Integer.parseInt(row[1]);
            switch (row[0]) {
                case "rows of a table" -> rowsOfATable(most);
                case "levels of `part`, from 0" -> levels(most);
                case "pairs of a join" -> pairs(most);
                case "events told of a join" -> events(most);
                case "calls on an object" -> due.is(row[0], most, Bench.MOST_CALLS);
                default -> due.is("a limit that is tested: " + row[0], 0, 1);
            }
        }
    }

    private void rowsOfATable(int most) {
        Bench bench = new Bench().sameKey(0, 1, most - 1);
        due.is("the last row", bench.row(0, 1, 1), most);
        due.is("a row more", bench.row(0, 1, 1), JoinBench.FULL);
    }

    private void levels(int most) {
        Bench bench = Bench.of(1, 3, 0);
        due.is("part(0, " + most + ") is one of 2", bench.part(0, most) >> 1, 0);
        due.is("part(0, " + (most + 1) + ")", bench.part(0, most + 1), JoinBench.BAD);
    }

    private void pairs(int most) {
        Bench bench = Samples.pairs(most);
        due.is("the most pairs", bench.join(), most);
        due.is("the last pair's key", bench.pair(most - 1, 2), 8);
        bench.row(1, 8, 1);
        due.is("a pair more", bench.join(), JoinBench.FULL);
        due.is("its first pair", bench.pair(0, 2), JoinBench.BAD);
        due.is("told(10) of it", bench.told(10), most + 1);
    }

    private void events(int most) {
        Bench bench = Samples.events301();
        bench.join();
        due.is("events", bench.told(5), most + 1);
        due.is("the last that is told", bench.event(most - 1, 0), 1);
        due.is("one more", bench.event(most, 0), JoinBench.BAD);
    }

    /** The rows of the table whose heading begins so, without the line below the heading. */
    private List<String[]> table(String heading) {
        List<String[]> rows = new ArrayList<>();
        int at = 0;
        while (at < lines.size() && !lines.get(at).startsWith(heading)) {
            at++;
        }
        for (at += 2; at < lines.size() && lines.get(at).startsWith("|"); at++) {
            String[] cells = lines.get(at).substring(1).split("\\|");
            for (int i = 0; i < cells.length; i++) {
                cells[i] = cells[i].trim();
            }
            rows.add(cells);
        }
        return rows;
    }
}

/** The answers that are due by one sentence after the other of the document, each of them named. */
final class Boundary {
    private final Doc doc = new Doc();
    private final Due due;
    private String sentence = "";

    Boundary(String name) {
        due = new Due(name);
    }

    /** What is asked from here on is due by these words, which stand under that heading. */
    void by(String heading, String words) {
        sentence = heading + ", \"" + words + "\": ";
        due.is(sentence + "stands in the document", doc.says(heading, words) ? 1 : 0, 1);
    }

    void is(String call, long got, long want) {
        due.is(sentence + call, got, want);
    }

    /** told(0), told(1), .. as listed. */
    void told(String name, Bench bench, int... want) {
        for (int what = 0; what < want.length; what++) {
            is(name + ": told(" + what + ")", bench.told(what), want[what]);
        }
    }

    /** event(i, 0), event(i, 1), .. as listed. */
    void event(String name, Bench bench, int i, int... want) {
        for (int what = 0; what < want.length; what++) {
            is(name + ": event(" + i + ", " + what + ")", bench.event(i, what), want[what]);
        }
    }

    /** The rows of LEFT and RIGHT that are PAIR i. */
    void pair(String name, Bench bench, int i, int leftRow, int rightRow) {
        is(name + ": pair(" + i + ", 0)", bench.pair(i, 0), leftRow);
        is(name + ": pair(" + i + ", 1)", bench.pair(i, 1), rightRow);
    }

    void end() {
        due.end();
    }
}

import java.io.IOException;
import java.io.UncheckedIOException;
import java.nio.file.Files;
import java.nio.file.Path;

/** The document, so that a test that names a sentence names one that stands in it. */
final class Doc {
    private static final Path FILE = Path.of("../shared/DOC.md");

    private final String text;

    Doc() {
        try {
            text = Files.readString(FILE);
        } catch (IOException e) {
            throw new UncheckedIOException(e);
        }
    }

    /** Whether the words stand under the heading that begins so, before the next one. */
    boolean says(String heading, String words) {
        int from = text.indexOf("\n## " + heading);
        if (from < 0) {
            return false;
        }
        int next = text.indexOf("\n## ", from + 1);
        return text.substring(from, next < 0 ? text.length() : next).contains(words);
    }
}

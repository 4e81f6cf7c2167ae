import java.io.IOException;
import java.io.UncheckedIOException;
import java.nio.file.Files;
import java.nio.file.Path;
import java.util.ArrayList;
import java.util.List;

/** The document, so that a test that names a sentence names one that stands in it. */
final class Doc {
    private static final Path FILE = Path.of("../shared/DOC.md");

    private final String text;

    Doc() {
        try {
            text = Files.readString(FILE);
        } catch (IOException e) {
            throw new UncheckedIOException(e);
        }
    }

    /** Whether the words stand under the heading that begins so, before the next one. */
    boolean says(String heading, String words) {
        return under(heading).contains(words);
    }

    /** The lines of the class as the document writes it out, without the parameters' names. */
    List<String> face() {
        List<String> lines = new ArrayList<>();
        for (String line : under("The public face").split("\n")) {
            String member = line.trim();
            if (member.startsWith("public ")) {
                lines.add(member.replaceAll("(int) \\w+(?=[,)])", "$1"));
            }
        }
        return lines;
    }

    private String under(String heading) {
        int from = text.indexOf("\n## " + heading);
        if (from < 0) {
            return "";
        }
        int next = text.indexOf("\n## ", from + 1);
        return text.substring(from, next < 0 ? text.length() : next);
    }
}

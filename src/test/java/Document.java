import java.io.IOException;
import java.nio.file.Files;
import java.nio.file.Path;
import java.util.ArrayList;
import java.util.List;

/** The words of ../shared/DOC.md that promise something: section 0 is its Terms, section n its promise n. */
final class Document {
    static final int PROMISES = 44;
    private static final List<String> SECTIONS = read();

    private Document() {
    }

    static String section(int number) {
        return SECTIONS.get(number);
    }

    private static List<String> read() {
        try {
            String text = Files.readString(Path.of("../shared/DOC.md"));
            List<String> sections = new ArrayList<>();
            sections.add(words(between(text, "\n## Terms", "\n## Promise 1:")));
            for (int n = 1; n <= PROMISES; n++) {
                String behind = n < PROMISES ? "\n## Promise " + (n + 1) + ":" : "\n## Not promised";
                String whole = between(text, "\n## Promise " + n + ":", behind);
                // the heading and the signature in backticks promise nothing
                sections.add(words(whole.substring(whole.indexOf("`: ") + 3)));
            }
            return sections;
        } catch (IOException e) {
            throw new IllegalStateException("no document", e);
        }
    }

    private static String between(String text, String from, String to) {
        int start = text.indexOf(from);
        int end = text.indexOf(to, start + 1);
        if (start < 0 || end < 0) {
            throw new IllegalStateException("no " + from);
        }
        return text.substring(start + from.length(), end);
    }

    /** Without fences and the marks of Terms' parts, and with single blanks. */
    private static String words(String text) {
        return text.replace("```text", " ").replace("```", " ").replaceAll("==== \\d\\.", " ")
            .replaceAll("\\s+", " ").trim();
    }
}

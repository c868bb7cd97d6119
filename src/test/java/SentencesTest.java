import java.io.IOException;
import java.nio.file.DirectoryStream;
import java.nio.file.Files;
import java.nio.file.Path;
import java.util.regex.Matcher;
import java.util.regex.Pattern;

/** No sentence of the document is without a test that quotes it: every word of Terms and promises stands in a quote. */
public final class SentencesTest {
    private static final Pattern QUOTE = Pattern.compile("said\\((\\d+), \"([^\"]*)\"\\)");

    public static void main(String[] args) throws IOException {
        Check check = new Check();
        boolean[][] quoted = new boolean[Document.PROMISES + 1][];
        for (int n = 0; n <= Document.PROMISES; n++) {
            quoted[n] = new boolean[Document.section(n).length()];
        }
        try (DirectoryStream<Path> files = Files.newDirectoryStream(Path.of("src/test/java"), "Edge*Test.java")) {
            for (Path file : files) {
                mark(Files.readString(file), quoted);
            }
        }
        for (int n = 0; n <= Document.PROMISES; n++) {
            String missing = missing(Document.section(n), quoted[n]);
            check.due("section " + n + " without a quote: " + missing, missing.length(), 0);
        }
        check.finish();
    }

    private static void mark(String source, boolean[][] quoted) {
        Matcher quotes = QUOTE.matcher(source);
        while (quotes.find()) {
            int section = Integer.parseInt(quotes.group(1));
            String words = quotes.group(2);
            String text = Document.section(section);
            for (int at = text.indexOf(words); at >= 0; at = text.indexOf(words, at + 1)) {
                for (int i = 0; i < words.length(); i++) {
                    quoted[section][at + i] = true;
                }
            }
        }
    }

    private static String missing(String text, boolean[] quoted) {
        StringBuilder missing = new StringBuilder();
        for (int i = 0; i < text.length(); i++) {
            boolean gap = quoted[i] || text.charAt(i) == ' ' && (i == 0 || quoted[i - 1]);
            missing.append(gap ? "" : text.charAt(i));
        }
        return missing.toString();
    }
}

import java.io.IOException;
import java.nio.file.Files;
import java.nio.file.Path;
import java.util.List;
import java.util.Set;
import java.util.TreeSet;
import java.util.regex.Matcher;
import java.util.regex.Pattern;
import java.util.stream.Collectors;
import java.util.stream.Stream;

/** What the tests of edges quote stands in the document, and of each promise and each term something is quoted. */
public final class QuotesTest {
    private static final Check check = new Check();
    private static final Path DOCUMENT = Path.of("../shared/DOC.md");
    private static final Pattern QUOTE = Pattern.compile("check\\.says\\(\"((?:[^\"\\\\]|\\\\.)*)\"\\)");
    private static final int PROMISES = 40;

    public static void main(String[] args) throws IOException {
        String document = oneLine(Files.readString(DOCUMENT));
        Set<String> quotes = quotes();
        check.holds("there are quotes", !quotes.isEmpty());
        for (String quote : quotes) {
            check.holds("the document says: " + quote, document.contains(quote));
        }
        for (int p = 1; p <= PROMISES; p++) {
            String end = p < PROMISES ? "## Promise " + (p + 1) + ":" : "## Not promised";
            quotedBetween(document, "## Promise " + p + ":", end, quotes);
        }
        for (int t = 1; t <= 4; t++) {
            quotedBetween(document, "==== " + t + ".", t < 4 ? "==== " + (t + 1) + "." : "The constants:", quotes);
        }
        check.finish("QuotesTest");
    }

    private static void quotedBetween(String document, String start, String end, Set<String> quotes) {
        int from = document.indexOf(start);
        int to = document.indexOf(end);
        check.holds(start + " stands before " + end, from >= 0 && from < to);
        if (from >= 0 && from < to) {
            String part = document.substring(from, to);
            check.holds("something is quoted of " + start, quotes.stream().anyMatch(part::contains));
        }
    }

    private static Set<String> quotes() throws IOException {
        Set<String> quotes = new TreeSet<>();
        for (Path file : edgesTests()) {
            Matcher m = QUOTE.matcher(Files.readString(file));
            while (m.find()) {
                quotes.add(m.group(1));
            }
        }
        return quotes;
    }

    private static List<Path> edgesTests() throws IOException {
        try (Stream<Path> files = Files.list(Path.of("src/test/java"))) {
            return files.filter(f -> f.getFileName().toString().endsWith("EdgesTest.java")).collect(Collectors.toList());
        }
    }

    private static String oneLine(String text) {
        return text.replaceAll("\\s+", " ");
    }
}

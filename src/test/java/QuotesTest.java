import java.io.IOException;
import java.nio.file.Files;
import java.nio.file.Path;
import java.util.ArrayList;
import java.util.List;
import java.util.regex.Matcher;
import java.util.regex.Pattern;
import java.util.stream.Collectors;
import java.util.stream.Stream;

/** What the tests quote is what the document says, and each promise is quoted by one of them at least. */
public final class QuotesTest {
    private static final int PROMISES = 43;
    private static final Pattern QUOTE = Pattern.compile("(?:sentence|range)\\(\"([^\"]+)\"");

    private final Due due = new Due("QuotesTest");

    private QuotesTest() {
    }

    public static void main(String[] args) throws IOException {
        String source = System.getenv("PANE_SOURCE"), document = System.getenv("PANE_DOCUMENT");
        Path tests = Path.of(source == null ? "src/main/java/PaneAcross.java" : source).resolveSibling("../../test/java");
        Path told = Path.of(document == null ? "../shared/DOC.md" : document);
        QuotesTest test = new QuotesTest();
        // Without the document the other tests are as good as with it.
        if (Files.isReadable(told)) test.lookUp(quotesIn(tests), Files.readString(told));
        else System.out.println("QuotesTest: no document at " + told);
        test.due.end();
    }

    private static List<String> quotesIn(Path tests) throws IOException {
        List<Path> files;
        try (Stream<Path> found = Files.list(tests)) {
            files = found.filter(f -> f.toString().endsWith("Test.java")).sorted().collect(Collectors.toList());
        }
        List<String> quotes = new ArrayList<>();
        for (Path file : files) {
            Matcher quote = QUOTE.matcher(Files.readString(file));
            while (quote.find()) quotes.add(quote.group(1));
        }
        return quotes;
    }

    private static String plain(String text) {
        return text.replaceAll("\\s+", " ");
    }

    private void lookUp(List<String> quotes, String document) {
        String all = plain(document);
        due.isTrue("quotes are many: " + quotes.size(), quotes.size() > 2 * PROMISES);
        for (String quote : quotes) due.isTrue("the document says: " + quote, all.contains(quote));
        String[] sections = document.split("## Promise ");
        due.is("promises", sections.length - 1, PROMISES);
        for (int i = 1; i < sections.length; i++) {
            String promise = plain(sections[i].replaceFirst("## Not promised[\\s\\S]*", ""));
            due.isTrue("a test quotes promise " + promise, quotes.stream().anyMatch(promise::contains));
        }
    }
}

import java.io.IOException;
import java.nio.file.Files;
import java.nio.file.Path;
import java.util.ArrayList;
import java.util.List;
import java.util.regex.Matcher;
import java.util.regex.Pattern;

/**
 * The sentences that tests quote stand in the document, and of the promises every word is quoted by some test. It
 * fails where a new document says something else: then the tests of that promise are to be read again.
 */
public final class DocTest {
    private static final Path DOC = Path.of("../shared/DOC.md");
    private static final Check check = new Check("DocTest");

    private record Quote(String kind, int number, String words) {
    }

    public static void main(String[] args) throws IOException {
        if (!Files.isReadable(DOC)) {
            System.out.println("DocTest: no document to read");
            return;
        }
        String doc = Files.readString(DOC);
        List<Quote> quotes = quotes();
        String terms = plain(doc.substring(doc.indexOf("## Terms"), doc.indexOf("## Promise 1:")));
        for (Quote q : quotes) {
            if (q.kind().equals("term")) {
                check.due("Terms say \"" + q.words() + "\"", true, terms.contains(q.words()));
            }
        }
        int promises = 0;
        Matcher m = Pattern.compile("## Promise (\\d+): .*?\n(.*?)(?=\n## |\\z)", Pattern.DOTALL).matcher(doc);
        while (m.find()) {
            promises++;
            promise(Integer.parseInt(m.group(1)), plain(m.group(2)), quotes);
        }
        check.due("promises", 35, promises);
        check.finish();
    }

    private static String plain(String text) {
        return text.replaceAll("\\s+", " ").trim();
    }

    private static List<Quote> quotes() throws IOException {
        Pattern said = Pattern.compile("check\\.(says|term)\\((\\d+), \"((?:[^\"\\\\]|\\\\.)*)\"\\)");
        List<Quote> quotes = new ArrayList<>();
        try (var files = Files.list(Path.of("src/test/java"))) {
            for (Path file : files.sorted().toList()) {
                Matcher m = said.matcher(Files.readString(file));
                while (m.find()) {
                    quotes.add(new Quote(m.group(1), Integer.parseInt(m.group(2)), m.group(3)));
                }
            }
        }
        return quotes;
    }

    /** What no test quotes is left over; of a promise that is the call's own line alone. */
    private static void promise(int number, String text, List<Quote> quotes) {
        StringBuilder left = new StringBuilder(text.replaceFirst("^`[^`]*`:", ""));
        String whole = left.toString();
        for (Quote q : quotes) {
            if (q.kind().equals("says") && q.number() == number) {
                check.due("promise " + number + " says \"" + q.words() + "\"", true, whole.contains(q.words()));
                for (int at = whole.indexOf(q.words()); at >= 0; at = whole.indexOf(q.words(), at + 1)) {
                    for (int i = at; i < at + q.words().length(); i++) {
                        left.setCharAt(i, ' ');
                    }
                }
            }
        }
        String rest = plain(left.toString());
        check.due("promise " + number + " is quoted but for \"" + rest + "\"", false, rest.matches(".*[A-Za-z0-9].*"));
    }
}

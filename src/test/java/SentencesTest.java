import java.io.IOException;
import java.nio.file.DirectoryStream;
import java.nio.file.Files;
import java.nio.file.Path;
import java.util.ArrayList;
import java.util.List;
import java.util.regex.Matcher;
import java.util.regex.Pattern;

/**
 * The tests of edges quote the sentences of the document that they hold. Here each quote is looked up in the document,
 * and what of it no test quotes must not name an edge.
 */
public final class SentencesTest {
    private static final Path DOCUMENT = Path.of("../shared/DOC.md");
    private static final int PROMISES = 44;
    private static final Pattern QUOTE = Pattern.compile("due\\.says\\((\\d+), \"([^\"]*)\"\\)");
    private static final Pattern EDGE = Pattern.compile("\\b(BAD|FULL|STATE|SPENT|NONE|FINDINGS?|SIZE|CAST|BEYOND|NOTHING|NOUGHT|UNEVEN|STUCK"
        + "|empty|at most|at least|at first|above|below|more than|fewer|before|order|none|anew)\\b|\\d");
    private static final Due due = new Due();

    public static void main(String[] args) throws IOException {
        if (!Files.exists(DOCUMENT)) {
            System.out.println("the document is not there: nothing is held against it");
            return;
        }
        String[] sections = sections(Files.readString(DOCUMENT));
        List<List<String>> quotes = quotes();
        for (int promise = 0; promise <= PROMISES; promise++) {
            due.promise(promise);
            due.holds(!quotes.get(promise).isEmpty(), "no test quotes it");
            lookUp(sections[promise], quotes.get(promise));
        }
        due.end();
    }

    private static String plain(String text) {
        return text.replaceAll("\\s+", " ");
    }

    /** At 0 what stands ahead of promise 1, but for the face; then each promise without its heading and the call's form. */
    private static String[] sections(String text) {
        String[] all = new String[PROMISES + 1];
        String terms = text.substring(0, text.indexOf("## Promise 1:")).replaceAll("(?s)```java.*?```", "");
        all[0] = plain(terms.replaceAll("(?m)^Ahead of the calls .*$", "").replace("```text", "").replace("```", "").replaceAll("======== \\d", ""));
        for (int promise = 1; promise <= PROMISES; promise++) {
            int from = text.indexOf("## Promise " + promise + ":");
            int to = text.indexOf("\n## ", from);
            all[promise] = plain(text.substring(from, to)).replaceFirst("^## Promise [^`]*`[^`]*`:", "");
        }
        return all;
    }

    private static List<List<String>> quotes() throws IOException {
        List<List<String>> all = new ArrayList<>();
        for (int promise = 0; promise <= PROMISES; promise++) {
            all.add(new ArrayList<>());
        }
        try (DirectoryStream<Path> files = Files.newDirectoryStream(Path.of("src/test/java"), "*EdgesTest.java")) {
            for (Path file : files) {
                Matcher m = QUOTE.matcher(Files.readString(file));
                while (m.find()) {
                    all.get(Integer.parseInt(m.group(1))).add(m.group(2));
                }
            }
        }
        return all;
    }

    private static void lookUp(String section, List<String> quotes) {
        boolean[] quoted = new boolean[section.length()];
        for (String quote : quotes) {
            int at = section.indexOf(quote);
            due.holds(at >= 0, "the document does not say: " + quote);
            for (int i = 0; at >= 0 && i < quote.length(); i++) {
                quoted[at + i] = true;
            }
        }
        StringBuilder rest = new StringBuilder();
        for (int i = 0; i < section.length(); i++) {
            rest.append(quoted[i] ? '|' : section.charAt(i));
        }
        for (String piece : rest.toString().split("\\|+")) {
            due.holds(!EDGE.matcher(piece).find(), "no test quotes: " + piece.trim());
        }
    }
}

import java.io.IOException;
import java.nio.file.Files;
import java.nio.file.Path;
import java.util.ArrayList;
import java.util.List;
import java.util.Set;
import java.util.TreeSet;
import java.util.regex.Matcher;
import java.util.regex.Pattern;
import java.util.stream.Stream;

/**
 * No sentence of the document is forgotten: what the tests of edges quote stands there word for word,
 * and together they quote all of 'Terms' and of the promises. Run at the project's root.
 */
final class DocumentTest {
    private static final Path DOCUMENT = Path.of("../shared/DOC.md");
    private static final Path TESTS = Path.of("src/test/java");
    private static final Due due = new Due();

    public static void main(String[] args) throws IOException {
        String document = plain(Files.readString(DOCUMENT));
        boolean[] quoted = new boolean[document.length()];
        Set<Integer> promises = new TreeSet<>();
        for (Path file : tests()) {
            String source = Files.readString(file);
            for (String words : quotes(source)) {
                due.holds(file.getFileName() + ": '" + words + "' stands in the document", mark(document, plain(words), quoted));
            }
            Matcher numbers = Pattern.compile("(?:new Edge|Edge\\.busy|Edge\\.full)\\((\\d+),").matcher(source);
            while (numbers.find()) {
                promises.add(Integer.parseInt(numbers.group(1)));
            }
        }
        for (int promise = 1; promise <= 35; promise++) {
            due.holds("promise " + promise + " is tried where it ends", promises.contains(promise));
        }
        whatIsLeft(document, quoted);
        due.end();
    }

    private static List<Path> tests() throws IOException {
        try (Stream<Path> all = Files.list(TESTS)) {
            return all.filter(file -> file.getFileName().toString().endsWith("EdgesTest.java")).sorted().toList();
        }
    }

    private static String plain(String text) {
        return text.replaceAll("```text|```", " ").replaceAll("\\s+", " ");
    }

    /** What stands behind the number of an edge, or is called 'said'; by hand with 'promise n, ' ahead. */
    private static List<String> quotes(String source) {
        List<String> quotes = new ArrayList<>();
        Matcher m = Pattern.compile("(?:Edge(?:\\.busy|\\.full)?\\(\\d+, |String said = )((?:\"[^\"]*\"\\s*\\+?\\s*)+)[);]").matcher(source);
        while (m.find()) {
            String said = m.group(1).replaceAll("\"\\s*\\+\\s*\"", "").trim().replaceAll("^\"|\"$", "");
            quotes.add(said.replaceAll("^promise \\d+, '|': $", ""));
        }
        return quotes;
    }

    private static boolean mark(String document, String words, boolean[] quoted) {
        boolean found = false;
        for (int at = document.indexOf(words); at >= 0 && !words.isEmpty(); at = document.indexOf(words, at + 1)) {
            found = true;
            for (int i = at; i < at + words.length(); i++) {
                quoted[i] = true;
            }
        }
        return found;
    }

    /** Words of 'Terms' and of the promises that no test quotes; headings and the calls' own lines need none. */
    private static void whatIsLeft(String document, boolean[] quoted) {
        int from = document.indexOf("## Terms"), to = document.indexOf("## Not promised");
        due.holds("'Terms' stands ahead of 'Not promised'", from >= 0 && to > from);
        if (from < 0 || to <= from) {
            return;
        }
        StringBuilder left = new StringBuilder();
        for (int i = from; i < to; i++) {
            left.append(quoted[i] ? '\n' : document.charAt(i));
        }
        String rest = left.toString().replaceAll("## Terms", "").replaceAll("==== \\d", "").replaceAll("## Promise \\d+: [\\w ]+", "").replaceAll("`[^`]*`:?", "")
            .replaceAll("Ahead of the calls[ ,]* the interface says: ----( \\d)?( ways, people\\.| going\\.| houses, wells, runaways\\.)?", "");
        for (String words : rest.split("\n+")) {
            due.holds("a test quotes '" + words.trim() + "'", !Pattern.compile("\\w").matcher(words).find());
        }
    }
}

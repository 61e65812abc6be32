import java.io.IOException;
import java.nio.file.Files;
import java.nio.file.Path;
import java.util.LinkedHashSet;
import java.util.List;
import java.util.Set;
import java.util.TreeSet;
import java.util.regex.Matcher;
import java.util.regex.Pattern;
import java.util.stream.Stream;

/**
 * README.md keeps its word: each call of its examples is answered as it says, its table has each call of the face
 * with the refusals that the document names, and it names each test. Run at the project's root.
 */
final class ReadmeTest {
    private static final Path README = Path.of("README.md");
    private static final Path DOCUMENT = Path.of("../shared/DOC.md");
    private static final Path TESTS = Path.of("src/test/java");
    private static final Pattern REFUSAL = Pattern.compile("\\b(BAD|NOT|FULL|NONE|NULL|CAST|INDEX|SIZE)\\b");
    private static final Due due = new Due();

    public static void main(String[] args) throws Exception {
        String readme = Files.readString(README);
        int use = readme.indexOf("## Use"), tests = readme.indexOf("## Tests");
        due.holds("README.md has 'Use', then 'Tests'", use >= 0 && tests > use);
        if (use >= 0 && tests > use) {
            examples(readme.substring(use, tests));
            table(readme.substring(use, tests), Files.readString(DOCUMENT));
            namesEachTest(readme.substring(tests));
        }
        due.end();
    }

    private static void examples(String text) throws Exception {
        Set<String> tried = new TreeSet<>();
        StepRings x = null;
        Matcher blocks = Pattern.compile("(?s)```java\n(.*?)```").matcher(text);
        while (blocks.find()) {
            for (String line : blocks.group(1).split("\n")) {
                if (line.equals("StepRings x = new StepRings();")) {
                    x = new StepRings();
                    continue;
                }
                Matcher m = Pattern.compile("x\\.((\\w+)\\(.*\\)); +// (-?\\d+)(?:, ([A-Z]+))?(?:: .+)?").matcher(line);
                boolean fits = m.matches() && x != null;
                due.holds("README.md: '" + line + "' is a call with its answer", fits);
                if (fits) {
                    int want = Integer.parseInt(m.group(3));
                    due.is("README.md: " + m.group(1), Call.parsed(m.group(1)).on(x), want);
                    isNamed(line, want, m.group(4));
                    tried.add(m.group(2));
                }
            }
        }
        due.holds("README.md has each call of the face in an example, not only " + tried, tried.equals(new TreeSet<>(Call.names())));
    }

    /** A refusal is told by its name, too; faults and those that are 100000 less have none. */
    private static void isNamed(String line, int want, String name) throws Exception {
        if (name != null) {
            due.is("README.md: " + name, StepRings.class.getField(name).getInt(null), want);
        } else {
            due.holds("README.md: '" + line + "' has the refusal's name", want >= 0 || want <= -20 || line.contains("told("));
        }
    }

    private static void table(String text, String document) {
        Set<String> named = new TreeSet<>();
        Matcher rows = Pattern.compile("(?m)^\\| `(\\w+)(\\([^)]*\\))` \\| .+? \\|(.*)\\|$").matcher(text);
        while (rows.find()) {
            named.add(rows.group(1));
            Matcher promise = Pattern.compile("(?m)^`int " + rows.group(1) + "\\(([^)]*)\\)`: (.*)$").matcher(document);
            boolean found = promise.find();
            due.holds("the document promises " + rows.group(1), found);
            if (found) {
                String names = "(" + promise.group(1).replaceAll("\\b(int|long|boolean) ", "") + ")";
                due.holds("README.md: " + rows.group(1) + " has " + names, rows.group(2).equals(names));
                List<String> want = refusals(promise.group(2));
                due.holds("README.md: " + rows.group(1) + " refuses by " + want, refusals(rows.group(3)).equals(want));
            }
        }
        due.holds("README.md has each call of the face in its table, not only " + named, named.equals(new TreeSet<>(Call.names())));
    }

    private static List<String> refusals(String text) {
        Set<String> names = new LinkedHashSet<>();
        Matcher m = REFUSAL.matcher(text);
        while (m.find()) {
            names.add(m.group());
        }
        return List.copyOf(names);
    }

    private static void namesEachTest(String text) throws IOException {
        try (Stream<Path> all = Files.list(TESTS)) {
            for (Path file : all.sorted().toList()) {
                String name = file.getFileName().toString().replace(".java", "");
                due.holds("README.md names " + name, !name.endsWith("Test") || text.contains("`" + name + "`"));
            }
        }
        Matcher names = Pattern.compile("`(\\w+Test)`").matcher(text);
        while (names.find()) {
            due.holds("there is a " + names.group(1), Files.exists(TESTS.resolve(names.group(1) + ".java")));
        }
    }
}

import java.io.IOException;
import java.lang.reflect.Method;
import java.lang.reflect.Modifier;
import java.nio.file.DirectoryStream;
import java.nio.file.Files;
import java.nio.file.Path;
import java.util.ArrayList;
import java.util.List;
import java.util.Set;
import java.util.TreeSet;
import java.util.regex.Matcher;
import java.util.regex.Pattern;

/** What README.md says: its example, its table of calls and its table of tests. */
final class ReadmeTest {
    private static final Due D = new Due();
    private static final Path README = Path.of("README.md");
    private static final Path TESTS = Path.of("src", "test", "java");

    private ReadmeTest() {
    }

    public static void main(String[] args) throws IOException {
        example();
        exampleIsTheOneOfReadme();
        everyCallIsNamed();
        everyTestIsNamed();
        D.finish();
    }

    private static void example() {
        D.about("the example of README.md");
        // README begins
        NibbleTrie x = new NibbleTrie(3);               // keeps the latest three versions
        x.put(0x1a5, 7);
        x.put(0x1a6, 8);
        int branches = x.count(2);                      // 1: both keys are leaves of one branch
        int written = x.commit(2);                      // 1: the branch was not stored before
        long root = x.rootAt(0);
        int words = x.prove(0, 0x1a5);                  // 24: the proof of the key in version 0
        boolean shown = x.verify(root, 0x1a5, 7);       // true
        boolean other = x.verify(root, 0x1a5, 9);       // false: that is not its value
        boolean altered = x.alter(words - 1, 5);        // true: the last word of the proof is now 5
        boolean forged = x.verify(root, 0x1a5, 7);      // false: the digests no longer agree
        int had = x.put(0x1a6, 0);                      // 8: takes the key away
        int keys = x.crash();                           // 2: version 0 has it still
        int refused = x.put(0x2a6, 9);                  // 0: that is no path's number
        // README ends
        D.due("branches", branches, 1);
        D.due("written", written, 1);
        D.due("words", words, 24);
        D.due("shown", shown, true);
        D.due("other", other, false);
        D.due("altered", altered, true);
        D.due("forged", forged, false);
        D.due("had", had, 8);
        D.due("keys", keys, 2);
        D.due("refused", refused, 0);
    }

    private static void exampleIsTheOneOfReadme() throws IOException {
        D.about("the example of README.md");
        List<String> told = linesBetween(README, "```java", "```");
        List<String> tested = linesBetween(
                TESTS.resolve("ReadmeTest.java"), "// README begins", "// README ends");
        D.due("is the one that is tested here", told.equals(tested), true);
        D.due("has lines", told.isEmpty(), false);
    }

    private static List<String> linesBetween(Path file, String first, String last) throws IOException {
        List<String> between = new ArrayList<>();
        boolean inside = false;
        for (String line : Files.readAllLines(file)) {
            String text = line.strip();
            if (inside && text.equals(last)) {
                break;
            }
            if (inside) {
                between.add(text);
            }
            inside = inside || text.equals(first);
        }
        return between;
    }

    private static void everyCallIsNamed() throws IOException {
        D.about("the table of calls in README.md");
        Set<String> calls = new TreeSet<>();
        for (Method method : NibbleTrie.class.getDeclaredMethods()) {
            if (Modifier.isPublic(method.getModifiers())) {
                calls.add(method.getName() + "/" + method.getParameterCount());
            }
        }
        Set<String> told = new TreeSet<>();
        for (String[] call : firstColumn("(\\w+)\\((.*)\\)")) {
            told.add(call[1] + "/" + (call[2].isEmpty() ? 0 : call[2].split(",").length));
        }
        D.due("names " + told + " of " + calls, told.equals(calls), true);
    }

    private static void everyTestIsNamed() throws IOException {
        D.about("the table of tests in README.md");
        Set<String> tests = new TreeSet<>();
        try (DirectoryStream<Path> files = Files.newDirectoryStream(TESTS, "*Test.java")) {
            for (Path file : files) {
                tests.add(file.getFileName().toString().replace(".java", ""));
            }
        }
        Set<String> told = new TreeSet<>();
        for (String[] test : firstColumn("(\\w+Test)()")) {
            told.add(test[1]);
        }
        D.due("names " + told + " of " + tests, told.equals(tests), true);
    }

    /** The rows of README.md's tables whose first column has that form, with the form's two groups. */
    private static List<String[]> firstColumn(String form) throws IOException {
        List<String[]> rows = new ArrayList<>();
        Pattern pattern = Pattern.compile("\\| `" + form + "` \\|.*");
        for (String line : Files.readAllLines(README)) {
            Matcher matcher = pattern.matcher(line);
            if (matcher.matches()) {
                rows.add(new String[] {matcher.group(0), matcher.group(1), matcher.group(2)});
            }
        }
        return rows;
    }
}

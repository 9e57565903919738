import java.io.IOException;
import java.nio.file.Files;
import java.nio.file.Path;
import java.util.List;
import java.util.regex.Matcher;
import java.util.regex.Pattern;
import java.util.stream.Collectors;
import java.util.stream.Stream;

/** The whole document, from its first line to its last: no part of it lies outside the tests that quote it. */
public final class DocumentWholeTest {
    private static final Due due = new Due("DocumentWholeTest");
    private static final Pattern SECTION =
        Pattern.compile("new Section\\(\\s*\"(\\w+)\",\\s*\"([^\"]+)\",\\s*(?:\"([^\"]+)\"|Section\\.LAST)\\s*\\)");

    public static void main(String[] args) throws IOException {
        String left = Section.document();
        due.is("the document is there", left.isEmpty(), false);
        for (Path file : tests()) {
            String source = Files.readString(file);
            // Otherwise .ci/run would not run the test under the name it goes by.
            String name = file.getFileName().toString().replace(".java", "");
            Matcher section = SECTION.matcher(source);
            while (section.find()) {
                due.is("the name of the test in " + file, section.group(1), name);
                due.is(name + " ends its section", source.contains("section.end();"), true);
                String until = section.group(3) == null ? Section.LAST : section.group(3);
                left = without(left, section.group(2), until, name);
            }
        }
        due.is("what of the document no test quotes", left.replaceAll("[# ]+", " ").trim(), "TypestateChecker Terms");
        due.end();
    }

    private static List<Path> tests() throws IOException {
        try (Stream<Path> files = Files.list(Path.of("src/test/java"))) {
            return files.filter(f -> f.toString().endsWith("Test.java")).sorted().collect(Collectors.toList());
        }
    }

    /** A mark is left in the section's place, so that the next heading is still found behind it. */
    private static String without(String left, String from, String until, String test) {
        String document = Section.document();
        int first = document.indexOf(from);
        int last = first < 0 ? -1 : Section.endOf(document, first + from.length(), until);
        String part = last < 0 ? "" : document.substring(first, last);
        int at = part.isEmpty() ? -1 : left.indexOf(part);
        due.is("the section of " + test + " is there and no other test's", at >= 0, true);
        return at < 0 ? left : left.substring(0, at) + " # " + left.substring(at + part.length());
    }
}

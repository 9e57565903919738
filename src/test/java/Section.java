import java.io.IOException;
import java.nio.file.Files;
import java.nio.file.Path;

/**
 * A section of the document, in which each sentence gets a test of its own. The words of a sentence must
 * stand in the section, and end() fails if a word of the section is left that no test was given for.
 */
final class Section {
    /** In place of the next heading, for the last section. */
    static final String LAST = "";

    final Due due;
    private String left;

    Section(String test, String from, String until) {
        due = new Due(test);
        String document = document();
        int first = document.indexOf(from);
        int last = first < 0 ? -1 : endOf(document, first + from.length(), until);
        due.is("the section " + from + " stands in the document", first >= 0 && last > first, true);
        left = first >= 0 && last > first ? document.substring(first + from.length(), last) : "";
        // The names that stand in bold before a paragraph say nothing by themselves.
        left = left.replaceAll("\\*\\*[^*]+\\*\\*", "");
    }

    /** The document with a single blank for every gap. .ci/run starts the tests in the project's directory. */
    static String document() {
        try {
            return Files.readString(Path.of("../shared/DOC.md")).replaceAll("\\s+", " ");
        } catch (IOException e) {
            return "";
        }
    }

    /** Where a section that begins at from ends, or -1. */
    static int endOf(String document, int from, String until) {
        return until.equals(LAST) ? document.length() : document.indexOf(until, from);
    }

    void sentence(String words, Runnable test) {
        take(words);
        int before = due.asked();
        due.about(words);
        test.run();
        due.about("");
        due.is("answers asked for: " + words, due.asked() > before, true);
    }

    /** Words that leave something free, so that no answer can break them. */
    void free(String words) {
        take(words);
    }

    private void take(String words) {
        due.about("");
        int at = left.indexOf(words);
        due.is("stands in the section: " + words, at >= 0, true);
        if (at >= 0) left = left.substring(0, at) + " # " + left.substring(at + words.length());
    }

    void end() {
        String untested = left.replaceAll("[^\\p{L}\\p{N}]+", " ").trim();
        due.is("what of the section has no test", untested, "");
        due.end();
    }
}

import java.nio.file.Files;
import java.nio.file.Path;
import java.util.regex.Matcher;
import java.util.regex.Pattern;

/** What of LANGUAGE.md can be seen in the source's words alone. .ci/run starts it in the project's directory. */
public final class LanguageTest {
    private static final String[] FORBIDDEN = {
        "\\b(import|package|throw|throws|try|catch|finally|synchronized|assert|instanceof|null|this)\\b",
        "\\b(float|double|String|Math|Integer|Long|System|Arrays|Object|var|record|enum|interface)\\b",
        "->", "::", "\"", "@", "\\bprotected\\b", "\\[\\]\\s*\\[\\]", "\\d\\.\\d"};

    public static void main(String[] args) throws Exception {
        Due due = new Due("LanguageTest");
        String source = Files.readString(Path.of("src/main/java/TypestateChecker.java"));
        String code = source.replaceAll("//[^\n]*", "").replaceAll("(?s)/\\*.*?\\*/", "");
        for (String words : FORBIDDEN) due.is("what stands for " + words, found(words, code), "");
        String field = "    private final (int|boolean)\\[\\] \\w+ = new (int|boolean)\\[[A-Z_]+\\];";
        due.is("arrays made outside a field's initialiser", found("(?m)^(?!" + field + "$).*\\bnew\\b.*$", code), "");
        due.is("lines over 120 characters", found("(?m)^.{121,}$", code), "");
        due.end();
    }

    private static String found(String pattern, String code) {
        Matcher m = Pattern.compile(pattern).matcher(code);
        return m.find() ? m.group() : "";
    }
}

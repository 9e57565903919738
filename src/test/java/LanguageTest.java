import java.lang.reflect.Field;
import java.lang.reflect.Method;
import java.lang.reflect.Modifier;
import java.nio.file.Files;
import java.nio.file.Path;
import java.util.HashSet;
import java.util.Set;
import java.util.regex.Matcher;
import java.util.regex.Pattern;

/**
 * What of LANGUAGE.md can be seen in the source's words and in the class's members; it asks no more than
 * the rules do. .ci/run starts it in the project's directory.
 */
public final class LanguageTest {
    private static final Due due = new Due("LanguageTest");
    private static final String[] FORBIDDEN = {
        "\\b(import|package|throw|throws|try|catch|finally|synchronized|assert|instanceof|null)\\b",
        "\\b(float|double|String|Math|Integer|Long|System|Arrays|Object|var|record|enum|interface)\\b",
        "->", "::", "\"", "@", "\\bprotected\\b", "\\[\\]\\s*\\[\\]", "\\d\\.\\d"};
    private static final String ARRAY = "new\\s+(int|long|short|byte|char|boolean)\\s*\\[\\s*(\\w+)\\s*\\]";

    public static void main(String[] args) throws Exception {
        String source = Files.readString(Path.of("src/main/java/TypestateChecker.java"));
        String code = source.replaceAll("//[^\n]*", "").replaceAll("(?s)/\\*.*?\\*/", "");
        for (String words : FORBIDDEN) due.is("what stands for " + words, found(words, code), "");
        arrays(code);
        fields();
        methods();
        due.end();
    }

    private static String found(String pattern, String code) {
        Matcher m = Pattern.compile(pattern).matcher(code);
        return m.find() ? m.group() : "";
    }

    /** An array is made in a field's initialiser, which stands one brace deep, or in the constructor. */
    private static void arrays(String code) {
        Matcher start = Pattern.compile("public\\s+TypestateChecker\\s*\\(").matcher(code);
        due.is("the constructor is found", start.find(), true);
        int first = code.indexOf('{', start.start());
        int last = first + 1;
        while (depth(code, first, last) > 0) last++;
        Matcher made = Pattern.compile("\\bnew\\b").matcher(code);
        while (made.find()) {
            boolean inConstructor = made.start() > first && made.start() < last;
            String rest = code.substring(made.start(), Math.min(code.length(), made.start() + 80));
            due.is("an array of a fixed length: " + rest, Pattern.compile(ARRAY).matcher(rest).lookingAt(), true);
            due.is("made at the start: " + rest, inConstructor || depth(code, 0, made.start()) == 1, true);
        }
    }

    private static int depth(String code, int from, int to) {
        int depth = 0;
        for (int i = from; i < to; i++) depth += code.charAt(i) == '{' ? 1 : code.charAt(i) == '}' ? -1 : 0;
        return depth;
    }

    private static boolean isNumber(Class<?> type) {
        return type.isPrimitive() && type != float.class && type != double.class;
    }

    private static void fields() {
        int own = 0;
        for (Field f : TypestateChecker.class.getDeclaredFields()) {
            Class<?> type = f.getType();
            boolean array = type.isArray() && isNumber(type.getComponentType());
            due.is("the type of " + f.getName() + " is allowed", isNumber(type) || array, true);
            if (Modifier.isStatic(f.getModifiers())) {
                boolean constant = Modifier.isFinal(f.getModifiers()) && (type == int.class || type == long.class);
                due.is(f.getName() + " is a constant", constant, true);
            } else {
                own++;
            }
        }
        due.is("at most some forty fields beside the constants", own <= 42, true);
    }

    private static void methods() {
        Set<String> open = new HashSet<>();
        for (Method m : TypestateChecker.class.getDeclaredMethods())
            if (Modifier.isPublic(m.getModifiers())) open.add(m.getName());
        for (Method m : TypestateChecker.class.getDeclaredMethods()) {
            due.is(m.getName() + " takes at most seven parameters", m.getParameterCount() <= 7, true);
            due.is(m.getName() + " answers no array", m.getReturnType().isArray(), false);
            if (!Modifier.isPublic(m.getModifiers()))
                due.is(m.getName() + " bears a name of its own", open.contains(m.getName()), false);
        }
    }
}

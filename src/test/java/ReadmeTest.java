import java.io.IOException;
import java.lang.reflect.Method;
import java.lang.reflect.Modifier;
import java.net.URL;
import java.net.URLClassLoader;
import java.nio.file.Files;
import java.nio.file.Path;
import java.util.ArrayList;
import java.util.List;
import java.util.regex.Matcher;
import java.util.regex.Pattern;
import java.util.stream.Stream;
import javax.tools.JavaCompiler;
import javax.tools.ToolProvider;

/**
 * README.md: the code block of its use compiles as it stands, and each call in it answers what the comment behind
 * it begins with, a number, a truth or a constant's name; and the section on the tests says how to run them.
 */
public final class ReadmeTest {
    private static final Due due = new Due("ReadmeTest");
    private static final Pattern CALL = Pattern.compile("(x\\.(\\w+)\\(.*\\));\\s*(?://\\s*([-\\w]+)(?::.*)?)?");
    private static final Pattern OTHER = Pattern.compile("|//.*|TypestateChecker x = new TypestateChecker\\(\\d+\\);.*");

    /** A call of the block with the answer that stands behind it, both as they are written. */
    private record Told(String call, String answer) {
    }

    public static void main(String[] args) throws Exception {
        String readme = Files.readString(Path.of("README.md"));
        String block = block(section(readme, "## Use"));
        List<Told> told = told(block);
        Path out = Files.createTempDirectory("readme");
        try {
            answers(out, block, told);
        } finally {
            delete(out);
        }
        everyMethod(block);
        tests(section(readme, "## Tests"), readme);
        due.end();
    }

    private static String section(String readme, String heading) {
        int from = readme.indexOf(heading + "\n");
        due.is("README.md has a section " + heading, from >= 0, true);
        if (from < 0) return "";
        int until = readme.indexOf("\n## ", from);
        return readme.substring(from, until < 0 ? readme.length() : until);
    }

    private static String block(String section) {
        Matcher block = Pattern.compile("(?s)```java\n(.*?)```").matcher(section);
        boolean found = block.find();
        due.is("the use has a code block", found, true);
        String inside = found ? block.group(1) : "";
        due.is("and only one", found && block.find(), false);
        return inside;
    }

    /** Every line is a call that tells its answer, clear() that has none, or what OTHER allows. */
    private static List<Told> told(String block) {
        List<Told> all = new ArrayList<>();
        for (String line : block.split("\n")) {
            if (OTHER.matcher(line).matches()) continue;
            Matcher call = CALL.matcher(line);
            due.is("a line that can be tested: " + line, call.matches(), true);
            if (!call.matches()) continue;
            boolean answers = !call.group(2).equals("clear");
            due.is("the line tells an answer: " + line, call.group(3) != null, answers);
            all.add(new Told(call.group(1), call.group(3)));
        }
        due.is("calls in the block", all.size() > 20, true);
        return all;
    }

    private static void answers(Path out, String block, List<Told> told) throws Exception {
        StringBuilder source = new StringBuilder("final class ReadmeUse {\n static void asWritten() {\n" + block + " }\n");
        source.append(" static Object[] answers() {\n  java.util.List<Object> all = new java.util.ArrayList<>();\n  ")
            .append(block.lines().filter(l -> l.startsWith("TypestateChecker x")).findFirst().orElse("")).append('\n');
        for (Told t : told)
            source.append(t.answer == null ? "  " + t.call + ";\n" : "  all.add(" + t.call + ");\n");
        source.append("  return all.toArray();\n }\n}\n");
        Path file = out.resolve("ReadmeUse.java");
        Files.writeString(file, source);
        boolean compiled = compile(file, out);
        due.is("the code block compiles", compiled, true);
        if (compiled) compare(given(out), told);
    }

    private static boolean compile(Path file, Path out) {
        JavaCompiler compiler = ToolProvider.getSystemJavaCompiler();
        due.is("a compiler is there", compiler != null, true);
        return compiler != null && compiler.run(null, null, null, "--release", "17", "-cp",
            System.getProperty("java.class.path"), "-d", out.toString(), file.toString()) == 0;
    }

    private static Object[] given(Path out) throws Exception {
        try (URLClassLoader loader = new URLClassLoader(new URL[] {out.toUri().toURL()})) {
            Class<?> use = loader.loadClass("ReadmeUse");
            Method asWritten = use.getDeclaredMethod("asWritten");
            asWritten.setAccessible(true);
            asWritten.invoke(null);
            Method answers = use.getDeclaredMethod("answers");
            answers.setAccessible(true);
            return (Object[]) answers.invoke(null);
        }
    }

    private static void compare(Object[] given, List<Told> told) throws IllegalAccessException {
        int i = 0;
        for (Told t : told) {
            if (t.answer == null) continue;
            due.is("README.md's " + t.call, given[i].toString(), value(t.answer));
            i++;
        }
        due.is("all answers are compared", i, given.length);
    }

    /** A constant's name stands for its number. */
    private static String value(String word) throws IllegalAccessException {
        try {
            return String.valueOf(TypestateChecker.class.getField(word).getInt(null));
        } catch (NoSuchFieldException e) {
            return word;
        }
    }

    private static void everyMethod(String block) {
        for (Method m : TypestateChecker.class.getDeclaredMethods())
            if (Modifier.isPublic(m.getModifiers()))
                due.is("the use shows " + m.getName(), block.contains("x." + m.getName() + "("), true);
    }

    private static void tests(String section, String readme) throws IOException {
        due.is("the tests' section tells how to run them", section.contains("```\n.ci/run\n```"), true);
        due.is("what it tells to run can be run", Files.isExecutable(Path.of(".ci/run")), true);
        // Whatever file or directory the README names is there.
        Matcher named = Pattern.compile("`((?:src|\\.\\./shared)/[^`]*)`").matcher(readme);
        while (named.find()) due.is(named.group(1) + " is there", Files.exists(Path.of(named.group(1))), true);
        Matcher test = Pattern.compile("`([A-Z]\\w+?)(\\.\\.\\.)?`").matcher(section);
        while (test.find()) due.is("a test or helper named " + test.group(), isThere(test.group(1)), true);
    }

    private static boolean isThere(String name) throws IOException {
        try (Stream<Path> files = Files.list(Path.of("src/test/java"))) {
            return files.anyMatch(f -> f.getFileName().toString().startsWith(name));
        }
    }

    private static void delete(Path out) throws IOException {
        try (Stream<Path> files = Files.list(out)) {
            for (Path f : (Iterable<Path>) files::iterator) Files.delete(f);
        }
        Files.delete(out);
    }
}

import com.sun.source.tree.CompilationUnitTree;
import com.sun.source.tree.MethodInvocationTree;
import com.sun.source.tree.MethodTree;
import com.sun.source.util.JavacTask;
import com.sun.source.util.SourcePositions;
import com.sun.source.util.TreeScanner;
import com.sun.source.util.Trees;
import java.io.IOException;
import java.nio.file.Path;
import java.util.ArrayList;
import java.util.List;
import java.util.Map;
import java.util.Set;
import java.util.TreeMap;
import java.util.TreeSet;
import javax.tools.JavaCompiler;
import javax.tools.StandardJavaFileManager;
import javax.tools.ToolProvider;

/** LANGUAGE.md's rules on calls (8 and 10): no recursion, at most six deep, no call within another's arguments. */
public final class LanguageCallsTest {
    private static final Due due = new Due("LanguageCallsTest");
    private static final int DEEPEST = 6, SOME_SIXTY = 65;
    private static final Map<String, Set<String>> CALLED = new TreeMap<>();

    public static void main(String[] args) throws IOException {
        JavaCompiler compiler = ToolProvider.getSystemJavaCompiler();
        try (StandardJavaFileManager files = compiler.getStandardFileManager(null, null, null)) {
            Path source = Path.of("src/main/java/TypestateChecker.java");
            JavacTask task = (JavacTask) compiler.getTask(null, files, null, null, null, files.getJavaFileObjects(source));
            for (CompilationUnitTree unit : task.parse()) read(unit, Trees.instance(task).getSourcePositions());
        }
        due.is("methods are found", CALLED.size() > 17, true);
        for (String method : CALLED.keySet()) {
            int depth = depth(method, List.of());
            due.is(method + " goes " + depth + " deep, which is allowed", depth <= DEEPEST, true);
        }
        due.end();
    }

    private static void read(CompilationUnitTree unit, SourcePositions positions) {
        new TreeScanner<Void, String>() {
            private int withinArguments = 0;

            @Override
            public Void visitMethod(MethodTree method, String outer) {
                long first = unit.getLineMap().getLineNumber(positions.getStartPosition(unit, method));
                long last = unit.getLineMap().getLineNumber(positions.getEndPosition(unit, method));
                String name = method.getName().toString();
                due.is(name + " is short", last - first < SOME_SIXTY, true);
                // Two methods of one name would be counted as one, which can only find more than there is.
                CALLED.putIfAbsent(name, new TreeSet<>());
                return super.visitMethod(method, name);
            }

            @Override
            public Void visitMethodInvocation(MethodInvocationTree call, String method) {
                due.is(call + " in " + method + " stands in no arguments", withinArguments, 0);
                CALLED.get(method).add(call.getMethodSelect().toString());
                withinArguments++;
                scan(call.getArguments(), method);
                withinArguments--;
                return null;
            }
        }.scan(unit, "");
    }

    private static int depth(String method, List<String> callers) {
        due.is(method + " is called by itself", callers.contains(method), false);
        due.is(method + " is one of the class", CALLED.containsKey(method), true);
        if (callers.contains(method)) return DEEPEST + 1;
        List<String> path = new ArrayList<>(callers);
        path.add(method);
        int deepest = 0;
        for (String next : CALLED.getOrDefault(method, Set.of())) deepest = Math.max(deepest, depth(next, path));
        return 1 + deepest;
    }
}

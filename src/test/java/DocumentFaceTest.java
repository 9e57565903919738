import java.lang.reflect.Field;
import java.lang.reflect.Method;
import java.lang.reflect.Modifier;
import java.util.Arrays;
import java.util.regex.Matcher;
import java.util.regex.Pattern;

/** The section 'The public face', line by line: each declaration, as the document writes it, is one of the class. */
public final class DocumentFaceTest {
    private static final Section section = new Section("DocumentFaceTest", "## The public face", "## ");
    private static final Due due = section.due;
    private static final Class<?> FACE = TypestateChecker.class;
    private static int constants = 0, methods = 0;

    public static void main(String[] args) {
        section.sentence("```java public final class TypestateChecker {", DocumentFaceTest::publicAndFinal);
        constants("public static final int OP_CALL = 1, OP_SHARE = 2, OP_MERGE = 3, OP_DROP = 4, OP_IF = 5, OP_IFIN = 6, "
            + "OP_ELSE = 7, OP_LOOP = 8, OP_END = 9;");
        constants("public static final int HALF = 1, FULL = 2;");
        constants("public static final int F_NULL = 1, F_UNDECLARED = 2, F_STATE = 3, F_PERM = 4, F_OCCUPIED = 5, "
            + "F_SPLIT = 6, F_MERGE = 7;");
        constants("public static final int ACCEPTED = 10, REJECTED = 11, MALFORMED = 12;");
        constants("public static final int RUN_DONE = 20, RUN_OUT = 21;");
        section.sentence("public TypestateChecker(int capacity);", DocumentFaceTest::constructor);
        method("public boolean declare(int cls, int m, int req, int res);");
        method("public boolean setClass(int obj, int cls);");
        method("public int add(int op, int a, int b);");
        method("public void clear();");
        method("public int length();");
        method("public int check();");
        method("public int faultPc();");
        method("public int faultKind();");
        method("public int stateSet(int pc, int obj);");
        method("public int localSet(int pc, int l);");
        method("public int run(int choices, int steps);");
        method("public int machinePc();");
        method("public int stepsDone();");
        method("public int objState(int obj);");
        method("public int localObject(int l);");
        method("public int localPerm(int l);");
        nothingElse();
        labels();
        section.end();
    }

    private static void publicAndFinal() {
        due.is("the modifiers", FACE.getModifiers(), Modifier.PUBLIC | Modifier.FINAL);
        due.is("the name, without a package", FACE.getName(), "TypestateChecker");
        due.is("what it extends", FACE.getSuperclass().getName(), "java.lang.Object");
        due.is("what it implements", FACE.getInterfaces().length, 0);
        due.is("its type parameters", FACE.getTypeParameters().length, 0);
    }

    private static void constructor() {
        due.is("the constructors", Arrays.toString(FACE.getDeclaredConstructors()),
            "[public TypestateChecker(int)]");
        due.is("what it makes", new TypestateChecker(8).length(), 0);
    }

    private static void constants(String line) {
        section.sentence(line, () -> {
            Matcher one = Pattern.compile("(\\w+) = (\\d+)").matcher(line);
            while (one.find()) {
                constants++;
                constant(one.group(1), Integer.parseInt(one.group(2)));
            }
        });
    }

    private static void constant(String name, int value) {
        try {
            Field f = FACE.getDeclaredField(name);
            due.is(name + "'s modifiers", Modifier.toString(f.getModifiers()), "public static final");
            due.is(name + "'s type", f.getType().toString(), "int");
            due.is(name, f.getInt(null), value);
        } catch (ReflectiveOperationException e) {
            due.is(name, e.toString(), "a constant of the class");
        }
    }

    private static void method(String line) {
        section.sentence(line, () -> {
            methods++;
            Matcher one = Pattern.compile("public (\\w+) (\\w+)\\((.*)\\);").matcher(line);
            due.is("the line is one of a method", one.matches(), true);
            int count = one.group(3).isEmpty() ? 0 : one.group(3).split(",").length;
            declared(one.group(1), one.group(2), count);
        });
    }

    /** All parameters of the document's methods are of int. */
    private static void declared(String type, String name, int count) {
        Class<?>[] ints = new Class<?>[count];
        Arrays.fill(ints, int.class);
        Object[] noughts = new Object[count];
        Arrays.fill(noughts, 0);
        try {
            Method m = FACE.getDeclaredMethod(name, ints);
            due.is(name + "'s modifiers", Modifier.toString(m.getModifiers()), "public");
            due.is(name + "'s type", m.getReturnType().toString(), type);
            due.is(name + "'s exceptions", m.getExceptionTypes().length, 0);
            Object answer = m.invoke(new TypestateChecker(8), noughts);
            String kind = answer == null ? "void" : answer instanceof Boolean ? "boolean" : "int";
            due.is(name + "'s answer", kind, type);
        } catch (ReflectiveOperationException e) {
            due.is(name, e.toString(), "a method of the class");
        }
    }

    private static void nothingElse() {
        long shownFields = Arrays.stream(FACE.getDeclaredFields())
            .filter(f -> !Modifier.isPrivate(f.getModifiers())).count();
        long shownMethods = Arrays.stream(FACE.getDeclaredMethods())
            .filter(m -> !Modifier.isPrivate(m.getModifiers())).count();
        due.is("fields that are not private", shownFields, constants);
        due.is("methods that are not private", shownMethods, methods);
        due.is("classes within the class", FACE.getDeclaredClasses().length, 0);
    }

    /** A case takes a constant alone, so these would not compile if the names were mere fields. */
    private static void labels() {
        int[] ops = {-1, 1, 2, 3, 4, 5, 6, 7, 8, 9, -1, -1};
        for (int i = 0; i < ops.length; i++) due.is("the statement kind of " + i, kind(i), ops[i]);
        int[] codes = {-1, 1, 2, 3, 4, 5, 6, 7, -1, -1, 10, 11, 12, -1, -1, -1, -1, -1, -1, -1, 20, 21, -1};
        for (int i = 0; i < codes.length; i++) due.is("the answer of " + i, answer(i), codes[i]);
        int[] perms = {-1, 1, 2, -1};
        for (int i = 0; i < perms.length; i++) due.is("the permission of " + i, permission(i), perms[i]);
    }

    private static int kind(int op) {
        switch (op) {
            case TypestateChecker.OP_CALL: return 1;
            case TypestateChecker.OP_SHARE: return 2;
            case TypestateChecker.OP_MERGE: return 3;
            case TypestateChecker.OP_DROP: return 4;
            case TypestateChecker.OP_IF: return 5;
            case TypestateChecker.OP_IFIN: return 6;
            case TypestateChecker.OP_ELSE: return 7;
            case TypestateChecker.OP_LOOP: return 8;
            case TypestateChecker.OP_END: return 9;
            default: return -1;
        }
    }

    private static int answer(int code) {
        switch (code) {
            case TypestateChecker.F_NULL: return 1;
            case TypestateChecker.F_UNDECLARED: return 2;
            case TypestateChecker.F_STATE: return 3;
            case TypestateChecker.F_PERM: return 4;
            case TypestateChecker.F_OCCUPIED: return 5;
            case TypestateChecker.F_SPLIT: return 6;
            case TypestateChecker.F_MERGE: return 7;
            case TypestateChecker.ACCEPTED: return 10;
            case TypestateChecker.REJECTED: return 11;
            case TypestateChecker.MALFORMED: return 12;
            case TypestateChecker.RUN_DONE: return 20;
            case TypestateChecker.RUN_OUT: return 21;
            default: return -1;
        }
    }

    private static int permission(int perm) {
        switch (perm) {
            case TypestateChecker.HALF: return 1;
            case TypestateChecker.FULL: return 2;
            default: return -1;
        }
    }
}

import java.lang.reflect.Constructor;
import java.lang.reflect.Field;
import java.lang.reflect.Method;
import java.lang.reflect.Modifier;
import java.util.Arrays;
import java.util.Set;
import java.util.TreeSet;

/** The public face: its constants with their values, its constructor and methods, and nothing beside them. */
public final class FaceTest {
    private static final String[] METHODS = {
        "boolean declare[int, int, int, int]", "boolean setClass[int, int]", "int add[int, int, int]",
        "void clear[]", "int length[]", "int check[]", "int faultPc[]", "int faultKind[]",
        "int stateSet[int, int]", "int localSet[int, int]", "int run[int, int]", "int machinePc[]",
        "int stepsDone[]", "int objState[int]", "int localObject[int]", "int localPerm[int]"};
    private static final String[] CONSTANTS = {
        "OP_CALL=1", "OP_SHARE=2", "OP_MERGE=3", "OP_DROP=4", "OP_IF=5", "OP_IFIN=6", "OP_ELSE=7",
        "OP_LOOP=8", "OP_END=9", "HALF=1", "FULL=2", "F_NULL=1", "F_UNDECLARED=2", "F_STATE=3",
        "F_PERM=4", "F_OCCUPIED=5", "F_SPLIT=6", "F_MERGE=7", "ACCEPTED=10", "REJECTED=11",
        "MALFORMED=12", "RUN_DONE=20", "RUN_OUT=21"};

    public static void main(String[] args) throws Exception {
        Due due = new Due("FaceTest");
        Class<?> face = TypestateChecker.class;
        due.is("the class's modifiers", face.getModifiers(), Modifier.PUBLIC | Modifier.FINAL);
        due.is("the methods", methods(face).toString(), new TreeSet<>(Arrays.asList(METHODS)).toString());
        due.is("the constants", constants(face).toString(), new TreeSet<>(Arrays.asList(CONSTANTS)).toString());
        due.is("the constructors", constructors(face).toString(), "[1 [int]]");
        due.is("nested classes", face.getDeclaredClasses().length, 0);
        due.end();
    }

    private static Set<String> methods(Class<?> face) {
        Set<String> found = new TreeSet<>();
        for (Method m : face.getDeclaredMethods()) {
            if (Modifier.isPrivate(m.getModifiers())) continue;
            String prefix = m.getModifiers() == Modifier.PUBLIC ? "" : "modifiers " + m.getModifiers() + " ";
            found.add(prefix + m.getReturnType() + " " + m.getName() + Arrays.toString(m.getParameterTypes()));
        }
        return found;
    }

    private static Set<String> constants(Class<?> face) throws Exception {
        Set<String> found = new TreeSet<>();
        for (Field f : face.getDeclaredFields()) {
            if (Modifier.isPrivate(f.getModifiers())) continue;
            boolean constant = f.getModifiers() == (Modifier.PUBLIC | Modifier.STATIC | Modifier.FINAL);
            found.add(f.getName() + "=" + (constant && f.getType() == int.class ? f.getInt(null) : "not a constant"));
        }
        return found;
    }

    private static Set<String> constructors(Class<?> face) {
        Set<String> found = new TreeSet<>();
        for (Constructor<?> c : face.getDeclaredConstructors()) {
            found.add(c.getModifiers() + " " + Arrays.toString(c.getParameterTypes()));
        }
        return found;
    }
}

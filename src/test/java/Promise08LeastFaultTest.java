/** Promise 8: the least faulting index, and the least fault code there. */
public final class Promise08LeastFaultTest {
    private static final Due due = new Due("Promise08LeastFaultTest");

    public static void main(String[] args) {
        noFault();
        eachCode();
        testsInOrder();
        leastIndex();
        leastCode();
        changesNothing();
        due.end();
    }

    private static void fault(String what, TypestateChecker x, int pc, int kind) {
        due.is(what + ", faultPc()", x.faultPc(), pc);
        due.is(what + ", faultKind()", x.faultKind(), kind);
        due.is(what + ", faultPc() again", x.faultPc(), pc);
    }

    private static void noFault() {
        fault("the empty program", Kit.with(), -1, -1);
        fault("an accepted program", Kit.file(Kit.CALL, 0, 0, Kit.CALL, 0, 2), -1, -1);
        fault("a malformed program", Kit.with(Kit.IF, 0, 0), -1, -1);
        fault("a malformed program that would fault", Kit.with(Kit.CALL, 2, 0, Kit.END, 0, 0), -1, -1);
        fault("a fault that no configuration comes to", Kit.with(Kit.IFIN, 1, 3, Kit.CALL, 2, 0, Kit.END, 0, 0), -1, -1);
    }

    private static void eachCode() {
        fault("CALL through null", Kit.file(Kit.CALL, 2, 0), 0, TypestateChecker.F_NULL);
        fault("CALL of an undeclared method", Kit.file(Kit.CALL, 0, 3), 0, TypestateChecker.F_UNDECLARED);
        fault("CALL in another state", Kit.file(Kit.CALL, 0, 1), 0, TypestateChecker.F_STATE);
        fault("CALL with HALF", Kit.file(Kit.SHARE, 2, 0, Kit.CALL, 2, 0), 1, TypestateChecker.F_PERM);
        fault("CALL with HALF that keeps the state",
            Kit.file(Kit.CALL, 0, 0, Kit.SHARE, 2, 0, Kit.CALL, 2, 1, Kit.CALL, 0, 1), -1, -1);
        fault("SHARE of null", Kit.with(Kit.SHARE, 0, 2), 0, TypestateChecker.F_NULL);
        fault("SHARE into a local in use", Kit.with(Kit.SHARE, 1, 0), 0, TypestateChecker.F_OCCUPIED);
        fault("SHARE of HALF", Kit.with(Kit.SHARE, 2, 0, Kit.DROP, 1, 0, Kit.SHARE, 1, 0), 2, TypestateChecker.F_SPLIT);
        fault("SHARE of the new HALF", Kit.with(Kit.SHARE, 2, 0, Kit.DROP, 1, 0, Kit.SHARE, 1, 2), 2,
            TypestateChecker.F_SPLIT);
        fault("MERGE into null", Kit.with(Kit.MERGE, 2, 0), 0, TypestateChecker.F_NULL);
        fault("MERGE from null", Kit.with(Kit.MERGE, 0, 2), 0, TypestateChecker.F_NULL);
        fault("MERGE of two objects", Kit.with(Kit.MERGE, 0, 1), 0, TypestateChecker.F_MERGE);
        fault("MERGE of halves of two objects", Kit.with(Kit.SHARE, 2, 0, Kit.DROP, 0, 0, Kit.SHARE, 0, 1,
            Kit.MERGE, 2, 0), 3, TypestateChecker.F_MERGE);
        fault("IFIN through null", Kit.with(Kit.IFIN, 2, 0, Kit.END, 0, 0), 0, TypestateChecker.F_NULL);
        fault("DROP of null", Kit.with(Kit.DROP, 2, 0, Kit.DROP, 0, 0, Kit.DROP, 0, 0), -1, -1);
    }

    private static void testsInOrder() {
        fault("null goes before undeclared", Kit.with(Kit.CALL, 2, 3), 0, TypestateChecker.F_NULL);
        TypestateChecker state = Kit.file(Kit.CALL, 0, 0, Kit.SHARE, 2, 0, Kit.CALL, 2, 0);
        fault("state goes before permission", state, 2, TypestateChecker.F_STATE);
        fault("null goes before occupied", Kit.with(Kit.SHARE, 1, 2), 0, TypestateChecker.F_NULL);
        fault("occupied goes before split", Kit.with(Kit.SHARE, 2, 0, Kit.SHARE, 1, 2), 1, TypestateChecker.F_OCCUPIED);
        fault("null goes before occupied and split, with itself dropped",
            Kit.with(Kit.DROP, 0, 0, Kit.SHARE, 1, 0), 1, TypestateChecker.F_NULL);
        fault("undeclared goes before permission", Kit.file(Kit.SHARE, 2, 0, Kit.CALL, 2, 3), 1,
            TypestateChecker.F_UNDECLARED);
        fault("both null in MERGE", Kit.with(Kit.DROP, 0, 0, Kit.MERGE, 0, 2), 1, TypestateChecker.F_NULL);
    }

    private static void leastIndex() {
        // The later statement faults in fewer steps than the earlier one, and with a lesser code.
        fault("an earlier index found later", Kit.file(Kit.LOOP, 0, 0, Kit.CALL, 0, 0, Kit.END, 0, 0,
            Kit.CALL, 2, 0), 1, TypestateChecker.F_STATE);
        fault("the first of two in a row", Kit.file(Kit.IF, 0, 0, Kit.SHARE, 1, 0, Kit.END, 0, 0, Kit.CALL, 2, 0),
            1, TypestateChecker.F_OCCUPIED);
        fault("the first of two branches", Kit.file(Kit.IF, 0, 0, Kit.MERGE, 0, 1, Kit.ELSE, 0, 0, Kit.CALL, 2, 0,
            Kit.END, 0, 0), 1, TypestateChecker.F_MERGE);
        fault("the second branch alone", Kit.file(Kit.IF, 0, 0, Kit.DROP, 0, 0, Kit.ELSE, 0, 0, Kit.CALL, 2, 0,
            Kit.END, 0, 0), 3, TypestateChecker.F_NULL);
        fault("index 15", Kit.with(Kit.DROP, 2, 0, Kit.DROP, 2, 0, Kit.DROP, 2, 0, Kit.DROP, 2, 0, Kit.DROP, 2, 0,
            Kit.DROP, 2, 0, Kit.DROP, 2, 0, Kit.DROP, 2, 0, Kit.DROP, 2, 0, Kit.DROP, 2, 0, Kit.DROP, 2, 0,
            Kit.DROP, 2, 0, Kit.DROP, 2, 0, Kit.DROP, 2, 0, Kit.DROP, 2, 0, Kit.CALL, 2, 0), 15,
            TypestateChecker.F_NULL);
    }

    private static void leastCode() {
        // One statement, reached with a HALF, in another state, or as null: each adds a lesser code.
        fault("permission alone", Kit.file(Kit.IF, 0, 0, Kit.SHARE, 2, 0, Kit.END, 0, 0, Kit.CALL, 0, 0), 3,
            TypestateChecker.F_PERM);
        fault("permission or state", Kit.file(Kit.IF, 0, 0, Kit.SHARE, 2, 0, Kit.ELSE, 0, 0, Kit.CALL, 0, 0,
            Kit.END, 0, 0, Kit.CALL, 0, 0), 5, TypestateChecker.F_STATE);
        fault("state or permission", Kit.file(Kit.IF, 0, 0, Kit.CALL, 0, 0, Kit.ELSE, 0, 0, Kit.SHARE, 2, 0,
            Kit.END, 0, 0, Kit.CALL, 0, 0), 5, TypestateChecker.F_STATE);
        fault("null or state", Kit.file(Kit.IF, 0, 0, Kit.DROP, 0, 0, Kit.ELSE, 0, 0, Kit.CALL, 0, 0,
            Kit.END, 0, 0, Kit.CALL, 0, 0), 5, TypestateChecker.F_NULL);
        fault("state or null", Kit.file(Kit.IF, 0, 0, Kit.CALL, 0, 0, Kit.ELSE, 0, 0, Kit.DROP, 0, 0,
            Kit.END, 0, 0, Kit.CALL, 0, 0), 5, TypestateChecker.F_NULL);
        fault("occupied or split", Kit.with(Kit.SHARE, 2, 0, Kit.IF, 0, 0, Kit.DROP, 1, 0, Kit.END, 0, 0,
            Kit.SHARE, 1, 0), 4, TypestateChecker.F_OCCUPIED);
        fault("null or other objects", Kit.with(Kit.IF, 0, 0, Kit.DROP, 1, 0, Kit.END, 0, 0, Kit.MERGE, 0, 1), 3,
            TypestateChecker.F_NULL);
        fault("a lesser code at a later index does not count", Kit.file(Kit.IF, 0, 0, Kit.SHARE, 2, 0, Kit.END, 0, 0,
            Kit.CALL, 0, 0, Kit.DROP, 0, 0, Kit.CALL, 0, 0), 3, TypestateChecker.F_PERM);
    }

    private static void changesNothing() {
        TypestateChecker x = Kit.file(Kit.LOOP, 0, 0, Kit.CALL, 0, 0, Kit.END, 0, 0, Kit.SHARE, 2, 1);
        x.run(1, 3);
        String before = Kit.everything(x);
        fault("the program", x, 1, TypestateChecker.F_STATE);
        due.is("after both", Kit.everything(x), before);
        x.declare(0, 0, 0, 0);
        fault("with a declaration that mends it", x, -1, -1);
        x.setClass(0, 1);
        fault("with a class that has no method", x, 1, TypestateChecker.F_UNDECLARED);
    }
}

import java.util.ArrayList;
import java.util.List;

/** Promise 13, sentence by sentence: the edges of obj and l, and the machine after each way that a run can end. */
public final class Boundary13MachineTest {
    private static final Section section =
        new Section("Boundary13MachineTest", "## Promise 13: Machine objects and locals", "## ");
    private static final Due due = section.due;
    private static final int CALL = Kit.CALL, SHARE = Kit.SHARE, MERGE = Kit.MERGE, DROP = Kit.DROP;
    private static final int HALF = TypestateChecker.HALF, FULL = TypestateChecker.FULL;

    public static void main(String[] args) {
        section.sentence("`objState(obj)` answers the state (0..3) of machine object obj,", Boundary13MachineTest::states);
        section.sentence("or -1 if obj is not in 0..1.", Boundary13MachineTest::objectEdges);
        section.sentence("`localObject(l)` answers the object (0 or 1) held by machine local l,",
            Boundary13MachineTest::objects);
        section.sentence("or -1 if the local is null", Boundary13MachineTest::nullObject);
        section.sentence("or l is not in 0..2.", () -> localEdges(true));
        section.sentence("`localPerm(l)` answers the permission of machine local l: 0 if it is null,",
            Boundary13MachineTest::nullPermission);
        section.sentence("otherwise HALF or FULL;", Boundary13MachineTest::permissions);
        section.sentence("-1 if l is not in 0..2.", () -> localEdges(false));
        section.sentence("These describe the machine's current configuration (the initial one after construction, `clear()` "
            + "or a MALFORMED run; the one the last run left otherwise).", Boundary13MachineTest::current);
        section.sentence("They change nothing.", () -> Situations.ask(due, "objState, localObject and localPerm", x -> {
            for (int v : Kit.around(0, 2)) {
                x.objState(v);
                x.localObject(v);
                x.localPerm(v);
            }
        }));
        section.end();
    }

    private static void states() {
        for (int s0 = 0; s0 < 4; s0++) {
            for (int s1 = 0; s1 < 4; s1++) {
                TypestateChecker x = Kit.with(CALL, 0, 0, CALL, 1, 0);
                x.setClass(1, 1);
                x.declare(0, 0, 0, s0);
                x.declare(1, 0, 0, s1);
                for (int n = 0; n <= 2; n++) {
                    x.run(0, n);
                    due.is("objState(0) after " + n + " steps", x.objState(0), n > 0 ? s0 : 0);
                    due.is("objState(1) after " + n + " steps", x.objState(1), n > 1 ? s1 : 0);
                }
            }
        }
        TypestateChecker lost = Kit.file(CALL, 0, 0, DROP, 0, 0);
        lost.run(0, 9);
        due.is("objState(0) of an object that no local holds", lost.objState(0), 1);
    }

    private static void objectEdges() {
        List<Situations.Call> refused = new ArrayList<>();
        for (int obj : Kit.outside(0, 1)) refused.add(new Situations.Call("objState(" + obj + ")", x -> x.objState(obj)));
        Situations.refuse(due, -1, refused);
        TypestateChecker x = Kit.file(CALL, 1, 0);
        x.run(0, 9);
        due.is("objState(0)", x.objState(0), 0);
        due.is("objState(1)", x.objState(1), 1);
    }

    /** Each local comes to hold each object with each permission: the same ways as in the test of localSet. */
    private static int[] way(int l, int object, int perm) {
        if (l == object) return perm == FULL ? new int[] {} : new int[] {SHARE, 2, l};
        int[] half = {DROP, l, 0, SHARE, l, object};
        return perm == HALF ? half : Programs.join(half, new int[] {MERGE, l, object});
    }

    private static void objects() {
        for (int l = 0; l < 3; l++) {
            for (int object = 0; object < 2; object++) {
                for (int perm = HALF; perm <= FULL; perm++) {
                    TypestateChecker x = Kit.with(way(l, object, perm));
                    due.is("run", x.run(0, 9), TypestateChecker.RUN_DONE);
                    due.is("localObject(" + l + ")", x.localObject(l), object);
                }
            }
        }
    }

    private static void nullObject() {
        TypestateChecker x = new TypestateChecker(8);
        due.is("localObject(2) at the start", x.localObject(2), -1);
        for (int l = 0; l < 3; l++) {
            Kit.program(x, DROP, l, 0);
            x.run(0, 0);
            due.is("localObject(" + l + ") before the drop", x.localObject(l), l == 2 ? -1 : l);
            x.run(0, 1);
            for (int other = 0; other < 3; other++)
                due.is("localObject(" + other + ") after the drop of " + l, x.localObject(other),
                    other == l || other == 2 ? -1 : other);
        }
        Kit.program(x, SHARE, 2, 1, MERGE, 2, 1);
        x.run(0, 9);
        due.is("localObject(1) after it was merged away", x.localObject(1), -1);
    }

    private static void nullPermission() {
        TypestateChecker x = new TypestateChecker(8);
        due.is("localPerm(2) at the start", x.localPerm(2), 0);
        for (int l = 0; l < 3; l++) {
            Kit.program(x, DROP, l, 0);
            x.run(0, 0);
            due.is("localPerm(" + l + ") before the drop", x.localPerm(l), l == 2 ? 0 : FULL);
            x.run(0, 1);
            for (int other = 0; other < 3; other++)
                due.is("localPerm(" + other + ") after the drop of " + l, x.localPerm(other),
                    other == l || other == 2 ? 0 : FULL);
        }
        Kit.program(x, SHARE, 2, 1, MERGE, 2, 1);
        x.run(0, 9);
        due.is("localPerm(1) after it was merged away", x.localPerm(1), 0);
    }

    private static void permissions() {
        for (int l = 0; l < 3; l++) {
            for (int object = 0; object < 2; object++) {
                for (int perm = HALF; perm <= FULL; perm++) {
                    TypestateChecker x = Kit.with(way(l, object, perm));
                    due.is("run", x.run(0, 9), TypestateChecker.RUN_DONE);
                    due.is("localPerm(" + l + ")", x.localPerm(l), perm);
                }
            }
        }
        // A half does not grow when the other half is lost.
        TypestateChecker x = Kit.with(SHARE, 2, 0, DROP, 2, 0);
        x.run(0, 9);
        due.is("localPerm(0) after the other half was dropped", x.localPerm(0), HALF);
    }

    private static void localEdges(boolean object) {
        List<Situations.Call> refused = new ArrayList<>();
        for (int l : Kit.outside(0, 2)) {
            String name = (object ? "localObject(" : "localPerm(") + l + ")";
            refused.add(new Situations.Call(name, x -> object ? x.localObject(l) : x.localPerm(l)));
        }
        Situations.refuse(due, -1, refused);
        TypestateChecker x = Kit.with(SHARE, 2, 1);
        x.run(0, 9);
        int[] objects = {0, 1, 1}, perms = {FULL, HALF, HALF};
        for (int l = 0; l < 3; l++) {
            if (object) due.is("localObject(" + l + ")", x.localObject(l), objects[l]);
            else due.is("localPerm(" + l + ")", x.localPerm(l), perms[l]);
        }
    }

    private static void current() {
        for (int capacity : Kit.around(8, 16))
            due.is("the machine when new", Kit.machine(new TypestateChecker(capacity)), Kit.INITIAL_MACHINE);
        TypestateChecker x = Kit.file(CALL, 0, 0, DROP, 1, 0, SHARE, 1, 0);
        String[] after = {Kit.INITIAL_MACHINE, "pc 1 steps 1 states 1 0 locals 0:2 1:2 -1:0",
            "pc 2 steps 2 states 1 0 locals 0:2 -1:0 -1:0", "pc 3 steps 3 states 1 0 locals 0:1 0:1 -1:0"};
        for (int n : new int[] {3, 0, 2, 1, 3, 4}) {
            x.run(0, n);
            due.is("the machine after " + n + " steps", Kit.machine(x), after[Math.min(n, 3)]);
        }
        x.add(Kit.ELSE, 0, 0);
        due.is("the machine until the malformed run", Kit.machine(x), after[3]);
        x.run(0, 9);
        due.is("the machine after the malformed run", Kit.machine(x), Kit.INITIAL_MACHINE);
        Kit.program(x, CALL, 0, 0, CALL, 0, 0);
        due.is("run", x.run(0, 9), TypestateChecker.F_STATE);
        due.is("the machine after the fault", Kit.machine(x), after[1]);
        x.clear();
        due.is("the machine when cleared", Kit.machine(x), Kit.INITIAL_MACHINE);
    }
}

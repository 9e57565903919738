/** Promise 13: the machine's objects and locals. */
public final class Promise13MachineTest {
    private static final Due due = new Due("Promise13MachineTest");

    public static void main(String[] args) {
        initial("a new object", new TypestateChecker(8));
        states();
        locals();
        wrongArguments();
        backToInitial();
        changesNothing();
        due.end();
    }

    private static void initial(String what, TypestateChecker x) {
        due.is(what + ", objState(0)", x.objState(0), 0);
        due.is(what + ", objState(1)", x.objState(1), 0);
        local(what, x, 0, 0, TypestateChecker.FULL);
        local(what, x, 1, 1, TypestateChecker.FULL);
        local(what, x, 2, -1, 0);
    }

    private static void local(String what, TypestateChecker x, int l, int object, int perm) {
        due.is(what + ", localObject(" + l + ")", x.localObject(l), object);
        due.is(what + ", localPerm(" + l + ")", x.localPerm(l), perm);
    }

    private static void states() {
        for (int s0 = 0; s0 < 4; s0++) {
            for (int s1 = 0; s1 < 4; s1++) {
                TypestateChecker x = Kit.with(Kit.CALL, 0, 0, Kit.CALL, 1, 1);
                x.declare(0, 0, 0, s0);
                x.declare(0, 1, 0, s1);
                due.is("run", x.run(0, 9), TypestateChecker.RUN_DONE);
                due.is("objState(0)", x.objState(0), s0);
                due.is("objState(1)", x.objState(1), s1);
            }
        }
    }

    private static void locals() {
        int half = TypestateChecker.HALF, full = TypestateChecker.FULL;
        TypestateChecker x = Kit.with(Kit.SHARE, 2, 1, Kit.MERGE, 2, 1, Kit.SHARE, 1, 0, Kit.DROP, 0, 0, Kit.SHARE, 0, 2);
        int[][] objects = {{0, 1, -1}, {0, 1, 1}, {0, -1, 1}, {0, 0, 1}, {-1, 0, 1}, {1, 0, 1}};
        int[][] perms = {{full, full, 0}, {full, half, half}, {full, 0, full}, {half, half, full}, {0, half, full},
            {half, half, half}};
        for (int n = 0; n <= 5; n++) {
            x.run(0, n);
            for (int l = 0; l < 3; l++) local("after " + n + " steps", x, l, objects[n][l], perms[n][l]);
        }
    }

    private static void wrongArguments() {
        TypestateChecker x = Kit.file(Kit.CALL, 0, 0, Kit.SHARE, 2, 0);
        for (int round = 0; round < 2; round++) {
            for (int v : new int[] {Integer.MIN_VALUE, -2, -1, 2, 3, 4, Integer.MAX_VALUE})
                due.is("objState(" + v + ")", x.objState(v), -1);
            for (int v : new int[] {Integer.MIN_VALUE, -2, -1, 3, 4, Integer.MAX_VALUE}) {
                due.is("localObject(" + v + ")", x.localObject(v), -1);
                due.is("localPerm(" + v + ")", x.localPerm(v), -1);
            }
            x.run(0, 99);
        }
    }

    private static void backToInitial() {
        TypestateChecker x = Kit.file(Kit.CALL, 0, 0, Kit.DROP, 1, 0, Kit.SHARE, 1, 0);
        x.run(0, 99);
        local("after the run", x, 1, 0, TypestateChecker.HALF);
        x.add(Kit.ELSE, 0, 0);
        local("until the next run", x, 1, 0, TypestateChecker.HALF);
        x.run(0, 99);
        initial("after a malformed run", x);
        Kit.program(x, Kit.CALL, 0, 0, Kit.DROP, 0, 0);
        x.run(0, 99);
        due.is("objState(0) of an object that no local holds", x.objState(0), 1);
        x.clear();
        initial("after clear", x);
    }

    private static void changesNothing() {
        TypestateChecker x = Kit.file(Kit.CALL, 0, 0, Kit.SHARE, 2, 0, Kit.CALL, 1, 0);
        x.run(0, 99);
        String before = Kit.everything(x);
        for (int v : Kit.OUTSIDE) {
            x.objState(v);
            x.localObject(v);
            x.localPerm(v);
        }
        due.is("after asking", Kit.everything(x), before);
        x.setClass(0, 1);
        x.declare(0, 0, 2, 3);
        due.is("objState(0) after another declaration", x.objState(0), 1);
    }
}

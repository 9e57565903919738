/** Promise 5: clearing empties the program and resets the machine, but keeps protocol and classes. */
public final class Promise05ClearTest {
    private static final Due due = new Due("Promise05ClearTest");

    public static void main(String[] args) {
        afterARun();
        afterAFault();
        ofAMalformedProgram();
        keepsProtocolAndClasses();
        ofAnEmptyProgram();
        due.end();
    }

    private static void isCleared(String what, TypestateChecker x) {
        due.is(what + ", length()", x.length(), 0);
        due.is(what + ", the machine", Kit.machine(x), Kit.INITIAL_MACHINE);
        due.is(what + ", the checker", Kit.checker(x), "0 10 -1 -1 |0 s1 s1 l4 l16 l1");
    }

    private static void afterARun() {
        TypestateChecker x = Kit.file(Kit.CALL, 0, 0, Kit.SHARE, 2, 0, Kit.DROP, 1, 0);
        x.run(0, 99);
        due.is("the machine before", Kit.machine(x), "pc 3 steps 3 states 1 0 locals 0:1 -1:0 0:1");
        x.clear();
        isCleared("after a run", x);
        due.is("add", x.add(Kit.CALL, 0, 0), 0);
        due.is("run", x.run(0, 99), TypestateChecker.RUN_DONE);
    }

    private static void afterAFault() {
        TypestateChecker x = Kit.file(Kit.CALL, 0, 0, Kit.CALL, 0, 0);
        due.is("run", x.run(0, 99), TypestateChecker.F_STATE);
        due.is("check()", x.check(), TypestateChecker.REJECTED);
        x.clear();
        isCleared("after a fault", x);
    }

    private static void ofAMalformedProgram() {
        TypestateChecker x = Kit.with(Kit.IF, 0, 0, Kit.IF, 0, 0, Kit.ELSE, 0, 0);
        due.is("check()", x.check(), TypestateChecker.MALFORMED);
        x.clear();
        isCleared("after a malformed program", x);
        Kit.append(x, Kit.IF, 0, 0, Kit.END, 0, 0);
        due.is("an ELSE of the old program does not count", x.stateSet(2, 0), 1);
        due.is("run", x.run(0, 99), TypestateChecker.RUN_DONE);
        due.is("stepsDone()", x.stepsDone(), 1);
    }

    private static void keepsProtocolAndClasses() {
        TypestateChecker x = new TypestateChecker(8);
        for (int cls = 0; cls < 2; cls++)
            for (int m = 0; m < 4; m++) x.declare(cls, m, 0, cls == 0 ? m : 3 - m);
        x.setClass(1, 1);
        for (int m = 0; m < 4; m++) {
            x.clear();
            Kit.append(x, Kit.CALL, 0, m, Kit.CALL, 1, m);
            due.is("stateSet(2, 0), method " + m, x.stateSet(2, 0), 1 << m);
            due.is("stateSet(2, 1), method " + m, x.stateSet(2, 1), 1 << (3 - m));
        }
    }

    private static void ofAnEmptyProgram() {
        TypestateChecker x = new TypestateChecker(8);
        x.clear();
        x.clear();
        isCleared("of an empty program", x);
    }
}

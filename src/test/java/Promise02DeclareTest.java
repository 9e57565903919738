/** Promise 2: declaring methods, replacing declarations, and refusing what is out of range. */
public final class Promise02DeclareTest {
    private static final Due due = new Due("Promise02DeclareTest");

    public static void main(String[] args) {
        everyDeclarationWorks();
        refusals();
        replacing();
        apartFromEachOther();
        nothingElseChanges();
        due.end();
    }

    private static void everyDeclarationWorks() {
        for (int cls = 0; cls < 2; cls++)
            for (int m = 0; m < 4; m++)
                for (int req = 0; req < 4; req++)
                    for (int res = 0; res < 4; res++) oneDeclaration(cls, m, req, res);
    }

    private static void oneDeclaration(int cls, int m, int req, int res) {
        String what = "class " + cls + " method " + m + " from " + req + " to " + res;
        TypestateChecker x = Kit.with(Kit.CALL, 0, m == 0 ? 1 : 0, Kit.CALL, 0, m);
        x.setClass(0, cls);
        x.declare(cls, m == 0 ? 1 : 0, 0, req);
        due.is(what + ", before", x.faultKind(), TypestateChecker.F_UNDECLARED);
        due.is(what, x.declare(cls, m, req, res), true);
        due.is(what + ", check()", x.check(), TypestateChecker.ACCEPTED);
        due.is(what + ", stateSet(2, 0)", x.stateSet(2, 0), 1 << res);
        due.is(what + ", run", x.run(0, 9), TypestateChecker.RUN_DONE);
        due.is(what + ", objState(0)", x.objState(0), res);
        x.declare(cls, m, (req + 1) % 4, res);
        due.is(what + ", then another required state", x.run(0, 9), TypestateChecker.F_STATE);
    }

    private static void refusals() {
        TypestateChecker x = Kit.file(Kit.CALL, 0, 0, Kit.CALL, 0, 1, Kit.CALL, 0, 2, Kit.CALL, 1, 3);
        x.run(0, 2);
        String before = Kit.everything(x);
        int[] wrong = {Integer.MIN_VALUE, -4, -1, 4, 5, 8, Integer.MAX_VALUE};
        for (int w : wrong) {
            due.is("declare with class " + w, x.declare(w, 0, 3, 3), false);
            due.is("declare with method " + w, x.declare(0, w, 3, 3), false);
            due.is("declare with required " + w, x.declare(0, 0, w, 3), false);
            due.is("declare with resulting " + w, x.declare(0, 0, 3, w), false);
        }
        due.is("declare with class 2", x.declare(2, 0, 3, 3), false);
        due.is("declare with class 1 and method -4", x.declare(1, -4, 3, 3), false);
        due.is("declare with class 0 and method 4", x.declare(0, 4, 3, 3), false);
        due.is("after the refusals", Kit.everything(x), before);
        x.setClass(0, 1);
        due.is("class 1 stays undeclared", x.faultKind(), TypestateChecker.F_UNDECLARED);
    }

    private static void replacing() {
        TypestateChecker x = Kit.with(Kit.CALL, 0, 2);
        x.declare(0, 2, 0, 1);
        due.is("stateSet(1, 0)", x.stateSet(1, 0), 2);
        due.is("replaced", x.declare(0, 2, 0, 3), true);
        due.is("stateSet(1, 0) when replaced", x.stateSet(1, 0), 8);
        due.is("replaced again", x.declare(0, 2, 1, 1), true);
        due.is("faultKind() when replaced", x.faultKind(), TypestateChecker.F_STATE);
        due.is("a refused one does not replace", x.declare(0, 2, 0, 4), false);
        due.is("faultKind() when refused", x.faultKind(), TypestateChecker.F_STATE);
    }

    private static void apartFromEachOther() {
        for (int cls = 0; cls < 2; cls++) {
            for (int m = 0; m < 4; m++) {
                TypestateChecker x = new TypestateChecker(8);
                x.declare(cls, m, 0, 0);
                for (int c = 0; c < 2; c++) {
                    for (int n = 0; n < 4; n++) {
                        x.setClass(1, c);
                        Kit.program(x, Kit.CALL, 1, n);
                        boolean same = c == cls && n == m;
                        due.is("declared " + cls + "/" + m + ", called " + c + "/" + n, x.check(),
                            same ? TypestateChecker.ACCEPTED : TypestateChecker.REJECTED);
                    }
                }
            }
        }
    }

    private static void nothingElseChanges() {
        TypestateChecker x = Kit.file(Kit.CALL, 0, 0, Kit.SHARE, 2, 0, Kit.CALL, 2, 1);
        x.run(0, 2);
        String before = Kit.everything(x);
        due.is("declare(1, 0, 0, 3)", x.declare(1, 0, 0, 3), true);
        due.is("declare(0, 3, 2, 3)", x.declare(0, 3, 2, 3), true);
        due.is("after declaring methods that no statement calls", Kit.everything(x), before);
        String machine = Kit.machine(x);
        x.declare(0, 0, 0, 2);
        due.is("the machine after declaring a method it called", Kit.machine(x), machine);
    }
}

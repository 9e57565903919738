/** Promise 3: setting an object's class, and refusing what is out of range. */
public final class Promise03SetClassTest {
    private static final Due due = new Due("Promise03SetClassTest");

    public static void main(String[] args) {
        eachPairOfClasses();
        refusals();
        nothingElseChanges();
        staysWithTheObject();
        due.end();
    }

    private static TypestateChecker twoClasses() {
        TypestateChecker x = Kit.with(Kit.CALL, 0, 0, Kit.CALL, 1, 0);
        x.declare(0, 0, 0, 2);
        x.declare(1, 0, 0, 3);
        return x;
    }

    private static void eachPairOfClasses() {
        TypestateChecker x = twoClasses();
        for (int pair = 0; pair < 8; pair++) {
            int c0 = pair & 1, c1 = pair >> 1 & 1;
            due.is("setClass(0, " + c0 + ")", x.setClass(0, c0), true);
            due.is("setClass(1, " + c1 + ")", x.setClass(1, c1), true);
            due.is("stateSet(2, 0)", x.stateSet(2, 0), 4 << c0);
            due.is("stateSet(2, 1)", x.stateSet(2, 1), 4 << c1);
            x.run(0, 9);
            due.is("objState(0)", x.objState(0), 2 + c0);
            due.is("objState(1)", x.objState(1), 2 + c1);
        }
    }

    private static void refusals() {
        TypestateChecker x = twoClasses();
        x.setClass(1, 1);
        x.run(0, 1);
        String before = Kit.everything(x);
        int[] wrong = {Integer.MIN_VALUE, -2, -1, 2, 3, Integer.MAX_VALUE};
        for (int w : wrong) {
            due.is("setClass(" + w + ", 0)", x.setClass(w, 0), false);
            due.is("setClass(" + w + ", 1)", x.setClass(w, 1), false);
            due.is("setClass(0, " + w + ")", x.setClass(0, w), false);
            due.is("setClass(1, " + w + ")", x.setClass(1, w), false);
            due.is("setClass(" + w + ", " + w + ")", x.setClass(w, w), false);
        }
        due.is("after the refusals", Kit.everything(x), before);
    }

    private static void nothingElseChanges() {
        TypestateChecker x = twoClasses();
        x.run(0, 1);
        String machine = Kit.machine(x);
        x.setClass(0, 1);
        x.setClass(1, 1);
        due.is("the machine", Kit.machine(x), machine);
        due.is("length()", x.length(), 2);
        x.setClass(0, 0);
        x.setClass(1, 0);
        due.is("the declarations of class 0", x.stateSet(2, 1), 4);
    }

    private static void staysWithTheObject() {
        TypestateChecker x = twoClasses();
        x.setClass(1, 1);
        // Object 1 is called through another local: its class counts, not the local's number.
        Kit.program(x, Kit.DROP, 0, 0, Kit.SHARE, 0, 1, Kit.MERGE, 0, 1, Kit.CALL, 0, 0);
        due.is("check()", x.check(), TypestateChecker.ACCEPTED);
        due.is("stateSet(4, 1)", x.stateSet(4, 1), 8);
        due.is("stateSet(4, 0)", x.stateSet(4, 0), 1);
    }
}

/** Promise 4: appending statements; which operands are refused and which are ignored. */
public final class Promise04AddTest {
    private static final Due due = new Due("Promise04AddTest");

    public static void main(String[] args) {
        everyOperand();
        wrongKinds();
        full();
        refusalChangesNothing();
        malformedIsAppended();
        machineStays();
        due.end();
    }

    private static boolean in(int v, int last) {
        return v >= 0 && v <= last;
    }

    private static boolean isDue(int op, int a, int b) {
        if (op == Kit.CALL || op == Kit.IFIN) return in(a, 2) && in(b, 3);
        if (op == Kit.SHARE || op == Kit.MERGE) return in(a, 2) && in(b, 2) && a != b;
        if (op == Kit.DROP) return in(a, 2);
        return true;
    }

    private static void everyOperand() {
        int[] operands = {Integer.MIN_VALUE, -3, -2, -1, 0, 1, 2, 3, 4, 5, 16, 256, Integer.MAX_VALUE};
        TypestateChecker x = new TypestateChecker(16);
        for (int op = 1; op <= 9; op++) {
            for (int a : operands) {
                for (int b : operands) {
                    if (x.length() == 16) x.clear();
                    int before = x.length();
                    boolean taken = isDue(op, a, b);
                    String what = "add(" + op + ", " + a + ", " + b + ")";
                    due.is(what, x.add(op, a, b), taken ? before : -1);
                    due.is("length() after " + what, x.length(), taken ? before + 1 : before);
                }
            }
        }
    }

    private static void wrongKinds() {
        TypestateChecker x = new TypestateChecker(16);
        int[] wrong = {Integer.MIN_VALUE, -9, -1, 0, 10, 11, 256 + 4, Integer.MAX_VALUE};
        for (int op : wrong) due.is("add(" + op + ", 0, 1)", x.add(op, 0, 1), -1);
        due.is("length()", x.length(), 0);
    }

    private static void full() {
        for (int cap = 8; cap <= 16; cap++) {
            TypestateChecker x = new TypestateChecker(cap);
            for (int i = 0; i < cap; i++) due.is("cap " + cap + ", add", x.add(Kit.DROP, 2, 77), i);
            for (int op = 0; op <= 10; op++) due.is("add(" + op + ", 0, 1) when full", x.add(op, 0, 1), -1);
            due.is("length() when full", x.length(), cap);
            due.is("check() when full", x.check(), TypestateChecker.ACCEPTED);
        }
    }

    private static void refusalChangesNothing() {
        TypestateChecker x = Kit.file(Kit.CALL, 0, 0, Kit.LOOP, 0, 0, Kit.CALL, 0, 1, Kit.END, 0, 0);
        x.run(1, 3);
        String before = Kit.everything(x);
        x.add(0, 0, 0);
        x.add(10, 0, 0);
        x.add(Kit.CALL, 3, 0);
        x.add(Kit.CALL, 0, 4);
        x.add(Kit.SHARE, 1, 1);
        x.add(Kit.MERGE, 0, 3);
        x.add(Kit.DROP, -1, 0);
        x.add(Kit.IFIN, 0, 4);
        due.is("after the refusals", Kit.everything(x), before);
        due.is("the next index", x.add(Kit.CALL, 0, 2), 4);
    }

    private static void malformedIsAppended() {
        TypestateChecker x = new TypestateChecker(8);
        due.is("END first", x.add(Kit.END, 0, 0), 0);
        due.is("ELSE next", x.add(Kit.ELSE, 0, 0), 1);
        due.is("LOOP next", x.add(Kit.LOOP, 0, 0), 2);
        due.is("check()", x.check(), TypestateChecker.MALFORMED);
        due.is("length()", x.length(), 3);
    }

    private static void machineStays() {
        TypestateChecker x = Kit.file(Kit.CALL, 0, 0, Kit.SHARE, 2, 0);
        x.run(0, 9);
        String machine = Kit.machine(x);
        due.is("add", x.add(Kit.DROP, 1, 0), 2);
        due.is("the machine after add", Kit.machine(x), machine);
        due.is("the protocol after add", x.check(), TypestateChecker.ACCEPTED);
        due.is("the machine's local 1 after add", x.localPerm(1), TypestateChecker.FULL);
        ignoredOperands();
    }

    private static void ignoredOperands() {
        for (int v : Kit.OUTSIDE) {
            TypestateChecker x = Kit.with(Kit.IF, v, v, Kit.DROP, 0, v, Kit.ELSE, v, v, Kit.LOOP, v, v,
                Kit.DROP, 1, v, Kit.END, v, v, Kit.END, v, v);
            due.is("check() with ignored operands " + v, x.check(), TypestateChecker.ACCEPTED);
            due.is("run with ignored operands " + v, x.run(1, 99), TypestateChecker.RUN_DONE);
            due.is("the machine with ignored operands " + v, Kit.machine(x),
                "pc 7 steps 3 states 0 0 locals -1:0 1:2 -1:0");
        }
    }
}

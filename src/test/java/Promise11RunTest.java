/** Promise 11: running the machine, its decisions, its budget, and where it stops. */
public final class Promise11RunTest {
    private static final int DONE = TypestateChecker.RUN_DONE, OUT = TypestateChecker.RUN_OUT;
    private static final Due due = new Due("Promise11RunTest");

    public static void main(String[] args) {
        emptyProgram();
        malformed();
        budget();
        endGoesBeforeBudget();
        decisions();
        manyDecisions();
        ifinTakesNoDecision();
        jumps();
        everythingDropped();
        faultsChangeNothing();
        startsAnew();
        changesNoProgram();
        due.end();
    }

    private static void runs(String what, TypestateChecker x, int choices, int steps, int answer, String machine) {
        due.is(what + ", run(" + choices + ", " + steps + ")", x.run(choices, steps), answer);
        due.is(what + ", the machine after run(" + choices + ", " + steps + ")", Kit.machine(x), machine);
    }

    private static void emptyProgram() {
        for (int n : new int[] {Integer.MIN_VALUE, -1, 0, 1, 4096, 4097, Integer.MAX_VALUE})
            runs("the empty program", new TypestateChecker(8), -1, n, DONE, Kit.INITIAL_MACHINE);
    }

    private static void malformed() {
        TypestateChecker x = Kit.with(Kit.DROP, 0, 0);
        x.run(0, 9);
        x.add(Kit.IF, 0, 0);
        due.is("the machine stays until the run", x.localPerm(0), 0);
        runs("malformed", x, 0, 9, TypestateChecker.MALFORMED, Kit.INITIAL_MACHINE);
        runs("malformed without a budget", x, 0, 0, TypestateChecker.MALFORMED, Kit.INITIAL_MACHINE);
    }

    private static void budget() {
        TypestateChecker x = Kit.with(Kit.LOOP, 0, 0, Kit.END, 0, 0);
        int[][] cases = {{Integer.MIN_VALUE, 0}, {-1, 0}, {0, 0}, {1, 1}, {2, 2}, {4095, 4095}, {4096, 4096},
            {4097, 4096}, {5000, 4096}, {Integer.MAX_VALUE, 4096}};
        for (int[] c : cases)
            runs("an endless loop", x, -1, c[0], OUT,
                "pc " + c[1] % 2 + " steps " + c[1] + " states 0 0 locals 0:2 1:2 -1:0");
    }

    private static void endGoesBeforeBudget() {
        TypestateChecker x = Kit.with(Kit.DROP, 2, 0, Kit.DROP, 2, 0);
        runs("two statements", x, 0, 0, OUT, Kit.INITIAL_MACHINE);
        runs("two statements", x, 0, -5, OUT, Kit.INITIAL_MACHINE);
        runs("two statements", x, 0, 1, OUT, "pc 1 steps 1 states 0 0 locals 0:2 1:2 -1:0");
        runs("two statements", x, 0, 2, DONE, "pc 2 steps 2 states 0 0 locals 0:2 1:2 -1:0");
        runs("two statements", x, 0, 3, DONE, "pc 2 steps 2 states 0 0 locals 0:2 1:2 -1:0");
        TypestateChecker fault = Kit.with(Kit.DROP, 2, 0, Kit.CALL, 2, 0);
        runs("the budget goes before the fault", fault, 0, 1, OUT, "pc 1 steps 1 states 0 0 locals 0:2 1:2 -1:0");
        runs("the fault within the budget", fault, 0, 2, TypestateChecker.F_NULL,
            "pc 1 steps 1 states 0 0 locals 0:2 1:2 -1:0");
        everyStatementCounts();
    }

    /** A round is four steps: LOOP and END count one each as the drops do. */
    private static void everyStatementCounts() {
        TypestateChecker x = Kit.with(Kit.LOOP, 0, 0, Kit.DROP, 2, 0, Kit.DROP, 2, 0, Kit.END, 0, 0);
        runs("31 rounds", x, 0x7fffffff, 4096, DONE, "pc 4 steps 125 states 0 0 locals 0:2 1:2 -1:0");
        runs("31 rounds, one step short", x, 0x7fffffff, 124, OUT, "pc 0 steps 124 states 0 0 locals 0:2 1:2 -1:0");
        runs("31 rounds, just enough", x, 0x7fffffff, 125, DONE, "pc 4 steps 125 states 0 0 locals 0:2 1:2 -1:0");
        runs("all bits set", x, -1, 4097, OUT, "pc 0 steps 4096 states 0 0 locals 0:2 1:2 -1:0");
    }

    private static void decisions() {
        TypestateChecker x = Kit.with(Kit.IF, 0, 0, Kit.DROP, 0, 0, Kit.END, 0, 0, Kit.IF, 0, 0, Kit.DROP, 1, 0,
            Kit.END, 0, 0);
        runs("two IF", x, 0, 99, DONE, "pc 6 steps 2 states 0 0 locals 0:2 1:2 -1:0");
        runs("two IF", x, 1, 99, DONE, "pc 6 steps 4 states 0 0 locals -1:0 1:2 -1:0");
        runs("two IF", x, 2, 99, DONE, "pc 6 steps 4 states 0 0 locals 0:2 -1:0 -1:0");
        runs("two IF", x, 3, 99, DONE, "pc 6 steps 6 states 0 0 locals -1:0 -1:0 -1:0");
        runs("two IF", x, -4, 99, DONE, "pc 6 steps 2 states 0 0 locals 0:2 1:2 -1:0");
        runs("two IF", x, Integer.MIN_VALUE, 99, DONE, "pc 6 steps 2 states 0 0 locals 0:2 1:2 -1:0");
        runs("two IF", x, -1, 99, DONE, "pc 6 steps 6 states 0 0 locals -1:0 -1:0 -1:0");
    }

    /** A loop takes decisions until the first 0: k rounds take 2k+1 steps. */
    private static void manyDecisions() {
        TypestateChecker loop = Kit.with(Kit.LOOP, 0, 0, Kit.END, 0, 0);
        for (int k = 0; k < 32; k++) {
            int choices = ~(1 << k);
            due.is("a loop that ends at decision " + k, loop.run(choices, 4096), DONE);
            due.is("its steps", loop.stepsDone(), 2 * k + 1);
        }
        TypestateChecker two = Kit.with(Kit.LOOP, 0, 0, Kit.END, 0, 0, Kit.LOOP, 0, 0, Kit.END, 0, 0);
        for (int k = 0; k < 32; k++) {
            // The first loop ends at decision k; the second takes k+1.. and ends at k again, 32 decisions on.
            due.is("the 32 decisions come again after " + k, two.run(~(1 << k), 4096), DONE);
            due.is("their steps", two.stepsDone(), 2 * k + 1 + 2 * 31 + 1);
        }
        TypestateChecker three = Kit.with(Kit.LOOP, 0, 0, Kit.END, 0, 0, Kit.LOOP, 0, 0, Kit.END, 0, 0,
            Kit.LOOP, 0, 0, Kit.END, 0, 0);
        due.is("and again", three.run(0x7fffffff, 4096), DONE);
        due.is("their steps", three.stepsDone(), 3 * 63);
    }

    private static void ifinTakesNoDecision() {
        TypestateChecker x = Kit.with(Kit.IFIN, 0, 0, Kit.IFIN, 0, 3, Kit.ELSE, 0, 0, Kit.IF, 0, 0, Kit.DROP, 1, 0,
            Kit.END, 0, 0, Kit.END, 0, 0, Kit.END, 0, 0);
        runs("IFIN", x, 1, 99, DONE, "pc 8 steps 7 states 0 0 locals 0:2 -1:0 -1:0");
        runs("IFIN", x, -2, 99, DONE, "pc 8 steps 5 states 0 0 locals 0:2 1:2 -1:0");
    }

    private static void jumps() {
        TypestateChecker x = Kit.file(Kit.LOOP, 0, 0, Kit.IFIN, 0, 0, Kit.CALL, 0, 0, Kit.ELSE, 0, 0, Kit.CALL, 0, 2,
            Kit.END, 0, 0, Kit.END, 0, 0);
        int[] pcs = {0, 1, 2, 3, 6, 0, 1, 4, 5, 6, 0, 7};
        int[] states = {0, 0, 0, 1, 1, 1, 1, 1, 0, 0, 0, 0};
        for (int n = 0; n < 12; n++) {
            runs("step by step", x, 3, n, n < 11 ? OUT : DONE,
                "pc " + pcs[n] + " steps " + n + " states " + states[n] + " 0 locals 0:2 1:2 -1:0");
        }
    }

    private static void everythingDropped() {
        TypestateChecker x = Kit.with(Kit.LOOP, 0, 0, Kit.DROP, 0, 0, Kit.DROP, 1, 0, Kit.END, 0, 0);
        runs("back at the loop with no reference", x, 1, 4, OUT, "pc 0 steps 4 states 0 0 locals -1:0 -1:0 -1:0");
        runs("and past it", x, 1, 99, DONE, "pc 4 steps 5 states 0 0 locals -1:0 -1:0 -1:0");
    }

    private static void faultsChangeNothing() {
        fault(TypestateChecker.F_NULL, "-1:0 1:2 -1:0", Kit.DROP, 0, 0, Kit.CALL, 0, 0);
        fault(TypestateChecker.F_UNDECLARED, "0:2 1:2 -1:0", Kit.DROP, 2, 0, Kit.CALL, 0, 3);
        fault(TypestateChecker.F_STATE, "0:2 1:2 -1:0", Kit.DROP, 2, 0, Kit.CALL, 0, 1);
        fault(TypestateChecker.F_PERM, "0:1 1:2 0:1", Kit.SHARE, 2, 0, Kit.CALL, 0, 0);
        fault(TypestateChecker.F_PERM, "0:1 1:2 0:1", Kit.SHARE, 2, 0, Kit.CALL, 2, 0);
        fault(TypestateChecker.F_NULL, "-1:0 1:2 -1:0", Kit.DROP, 0, 0, Kit.SHARE, 1, 0);
        fault(TypestateChecker.F_OCCUPIED, "0:2 1:1 1:1", Kit.SHARE, 2, 1, Kit.SHARE, 2, 0);
        fault(TypestateChecker.F_OCCUPIED, "0:2 1:1 1:1", Kit.SHARE, 2, 1, Kit.SHARE, 0, 1);
        fault(TypestateChecker.F_NULL, "0:2 -1:0 -1:0", Kit.DROP, 1, 0, Kit.MERGE, 1, 0);
        fault(TypestateChecker.F_NULL, "0:2 -1:0 -1:0", Kit.DROP, 1, 0, Kit.MERGE, 0, 1);
        fault(TypestateChecker.F_MERGE, "0:2 1:1 1:1", Kit.SHARE, 2, 1, Kit.MERGE, 2, 0);
        fault(TypestateChecker.F_NULL, "-1:0 1:2 -1:0", Kit.DROP, 0, 0, Kit.IFIN, 0, 0, Kit.END, 0, 0);
        TypestateChecker split = Kit.with(Kit.SHARE, 2, 1, Kit.DROP, 0, 0, Kit.SHARE, 0, 2);
        runs("F_SPLIT", split, 0, 99, TypestateChecker.F_SPLIT, "pc 2 steps 2 states 0 0 locals -1:0 1:1 1:1");
    }

    private static void fault(int code, String locals, int... statements) {
        runs("fault " + code, Kit.file(statements), 0, 99, code, "pc 1 steps 1 states 0 0 locals " + locals);
    }

    private static void startsAnew() {
        TypestateChecker x = Kit.file(Kit.CALL, 0, 0, Kit.SHARE, 2, 0, Kit.IF, 0, 0, Kit.DROP, 1, 0, Kit.END, 0, 0);
        for (int i = 0; i < 3; i++) {
            runs("again", x, 1, 99, DONE, "pc 5 steps 5 states 1 0 locals 0:1 -1:0 0:1");
            runs("again", x, 0, 1, OUT, "pc 1 steps 1 states 1 0 locals 0:2 1:2 -1:0");
            runs("again", x, 0, 0, OUT, Kit.INITIAL_MACHINE);
        }
        x.declare(0, 0, 1, 1);
        runs("with another declaration", x, 1, 99, TypestateChecker.F_STATE, Kit.INITIAL_MACHINE);
        x.setClass(0, 1);
        runs("with another class", x, 1, 99, TypestateChecker.F_UNDECLARED, Kit.INITIAL_MACHINE);
    }

    private static void changesNoProgram() {
        TypestateChecker x = Kit.file(Kit.LOOP, 0, 0, Kit.CALL, 0, 0, Kit.IF, 0, 0, Kit.CALL, 0, 2, Kit.END, 0, 0,
            Kit.END, 0, 0);
        String before = Kit.checker(x);
        for (int c = 0; c < 64; c++) x.run(c, c);
        due.is("the checker after many runs", Kit.checker(x), before);
        x.run(1, 3);
        String machine = Kit.machine(x);
        x.add(Kit.DROP, 0, 0);
        x.declare(0, 0, 3, 3);
        x.setClass(0, 1);
        Kit.checker(x);
        due.is("the machine until the next run", Kit.machine(x), machine);
    }
}

/** Promise 7: malformed, rejected or accepted, over all decisions, and what acceptance means for runs. */
public final class Promise07CheckTest {
    private static final int ACCEPTED = TypestateChecker.ACCEPTED, REJECTED = TypestateChecker.REJECTED,
        MALFORMED = TypestateChecker.MALFORMED;
    private static final Due due = new Due("Promise07CheckTest");

    public static void main(String[] args) {
        wellFormedness();
        branches();
        loops();
        deepLoop();
        unreachable();
        currentProtocol();
        changesNothing();
        acceptedRunsDoNotFault();
        due.end();
    }

    private static void says(String what, int want, TypestateChecker x) {
        due.is(what, x.check(), want);
    }

    private static void wellFormedness() {
        says("the empty program", ACCEPTED, Kit.with());
        int[] openers = {Kit.IF, Kit.IFIN, Kit.LOOP};
        for (int o : openers) {
            boolean loop = o == Kit.LOOP;
            says("open " + o, MALFORMED, Kit.with(o, 0, 0));
            says("open and closed " + o, ACCEPTED, Kit.with(o, 0, 0, Kit.END, 0, 0));
            says("closed twice " + o, MALFORMED, Kit.with(o, 0, 0, Kit.END, 0, 0, Kit.END, 0, 0));
            says("ELSE in " + o, loop ? MALFORMED : ACCEPTED, Kit.with(o, 0, 0, Kit.ELSE, 0, 0, Kit.END, 0, 0));
            says("two ELSE in " + o, MALFORMED,
                Kit.with(o, 0, 0, Kit.ELSE, 0, 0, Kit.ELSE, 0, 0, Kit.END, 0, 0));
            says("ELSE of the outer block " + o, loop ? MALFORMED : ACCEPTED,
                Kit.with(o, 0, 0, Kit.LOOP, 0, 0, Kit.END, 0, 0, Kit.ELSE, 0, 0, Kit.END, 0, 0));
            says("ELSE left open in " + o, MALFORMED, Kit.with(o, 0, 0, Kit.ELSE, 0, 0));
            says("LOOP across the ELSE in " + o, MALFORMED,
                Kit.with(o, 0, 0, Kit.LOOP, 0, 0, Kit.ELSE, 0, 0, Kit.END, 0, 0, Kit.END, 0, 0));
        }
        says("END alone", MALFORMED, Kit.with(Kit.END, 0, 0));
        says("ELSE alone", MALFORMED, Kit.with(Kit.ELSE, 0, 0));
        says("END before IF", MALFORMED, Kit.with(Kit.END, 0, 0, Kit.IF, 0, 0));
        says("both ELSE and inner ELSE", ACCEPTED, Kit.with(Kit.IF, 0, 0, Kit.IF, 0, 0, Kit.ELSE, 0, 0,
            Kit.END, 0, 0, Kit.ELSE, 0, 0, Kit.IF, 0, 0, Kit.ELSE, 0, 0, Kit.END, 0, 0, Kit.END, 0, 0));
        says("malformed goes before a fault", MALFORMED, Kit.with(Kit.CALL, 2, 0, Kit.IF, 0, 0));
        fullDepth();
    }

    private static void fullDepth() {
        TypestateChecker x = new TypestateChecker(16);
        for (int i = 0; i < 16; i++) x.add(i % 2 == 0 ? Kit.LOOP : Kit.IF, 0, 0);
        says("sixteen open blocks", MALFORMED, x);
        x.clear();
        for (int i = 0; i < 8; i++) x.add(i % 2 == 0 ? Kit.LOOP : Kit.IF, 0, 0);
        for (int i = 0; i < 8; i++) x.add(Kit.END, 0, 0);
        says("eight blocks, one in the other", ACCEPTED, x);
    }

    private static void branches() {
        says("a fault in the IF part", REJECTED, Kit.with(Kit.IF, 0, 0, Kit.CALL, 2, 0, Kit.END, 0, 0));
        says("a fault in the ELSE part", REJECTED,
            Kit.with(Kit.IF, 0, 0, Kit.ELSE, 0, 0, Kit.CALL, 2, 0, Kit.END, 0, 0));
        says("a fault after one branch", REJECTED,
            Kit.file(Kit.IF, 0, 0, Kit.DROP, 0, 0, Kit.END, 0, 0, Kit.CALL, 0, 0));
        says("both branches agree", ACCEPTED, Kit.file(Kit.IF, 0, 0, Kit.CALL, 0, 0, Kit.ELSE, 0, 0,
            Kit.CALL, 0, 0, Kit.CALL, 0, 1, Kit.END, 0, 0, Kit.CALL, 0, 2));
        says("IFIN keeps the branches apart", ACCEPTED, Kit.file(Kit.IF, 0, 0, Kit.CALL, 0, 0, Kit.END, 0, 0,
            Kit.IFIN, 0, 1, Kit.CALL, 0, 2, Kit.ELSE, 0, 0, Kit.CALL, 0, 0, Kit.END, 0, 0));
        says("IFIN through null", REJECTED, Kit.with(Kit.IFIN, 2, 0, Kit.END, 0, 0));
        // The two decisions are free of each other, but a local's state and permission are not.
        says("state and permission belong together", ACCEPTED, Kit.file(Kit.IF, 0, 0, Kit.CALL, 0, 0,
            Kit.SHARE, 2, 0, Kit.END, 0, 0, Kit.IFIN, 0, 1, Kit.CALL, 2, 1, Kit.MERGE, 0, 2, Kit.CALL, 0, 2,
            Kit.END, 0, 0));
    }

    private static void loops() {
        says("a loop that keeps the state", ACCEPTED,
            Kit.file(Kit.CALL, 0, 0, Kit.LOOP, 0, 0, Kit.CALL, 0, 1, Kit.END, 0, 0, Kit.CALL, 0, 2));
        says("the second repetition faults", REJECTED, Kit.file(Kit.LOOP, 0, 0, Kit.CALL, 0, 0, Kit.END, 0, 0));
        says("no repetition faults", REJECTED,
            Kit.file(Kit.LOOP, 0, 0, Kit.CALL, 0, 0, Kit.CALL, 0, 2, Kit.END, 0, 0, Kit.CALL, 0, 1));
        says("a loop around a pair", ACCEPTED,
            Kit.file(Kit.LOOP, 0, 0, Kit.CALL, 0, 0, Kit.CALL, 0, 2, Kit.END, 0, 0, Kit.CALL, 0, 0));
        says("a share in a loop", REJECTED, Kit.with(Kit.LOOP, 0, 0, Kit.SHARE, 2, 0, Kit.END, 0, 0));
        says("a share and merge in a loop", ACCEPTED,
            Kit.with(Kit.LOOP, 0, 0, Kit.SHARE, 2, 0, Kit.MERGE, 0, 2, Kit.END, 0, 0, Kit.SHARE, 2, 0));
        says("a half lost in a loop", REJECTED,
            Kit.with(Kit.LOOP, 0, 0, Kit.SHARE, 2, 0, Kit.DROP, 2, 0, Kit.END, 0, 0));
    }

    /** Each repetition moves object 0 on by one state, and only the fourth comes to the fault. */
    private static void deepLoop() {
        TypestateChecker x = Kit.with(Kit.LOOP, 0, 0, Kit.IFIN, 0, 0, Kit.CALL, 0, 0, Kit.ELSE, 0, 0,
            Kit.IFIN, 0, 1, Kit.CALL, 0, 1, Kit.ELSE, 0, 0, Kit.IFIN, 0, 2, Kit.CALL, 0, 2, Kit.ELSE, 0, 0,
            Kit.CALL, 2, 0, Kit.END, 0, 0, Kit.END, 0, 0, Kit.END, 0, 0, Kit.END, 0, 0);
        for (int m = 0; m < 3; m++) x.declare(0, m, m, m + 1);
        says("a fault in the fourth repetition", REJECTED, x);
        due.is("faultPc()", x.faultPc(), 10);
        due.is("faultKind()", x.faultKind(), TypestateChecker.F_NULL);
        due.is("three repetitions do not come there", x.run(7, 4096), TypestateChecker.RUN_DONE);
        due.is("four do", x.run(15, 4096), TypestateChecker.F_NULL);
        x.declare(0, 2, 2, 2);
        says("a state that holds the loop back", ACCEPTED, x);
    }

    private static void unreachable() {
        says("after a certain fault", REJECTED, Kit.with(Kit.CALL, 2, 0, Kit.CALL, 2, 0));
        says("a branch never taken", ACCEPTED, Kit.with(Kit.IFIN, 0, 1, Kit.CALL, 2, 0, Kit.END, 0, 0));
        says("an ELSE never taken", ACCEPTED,
            Kit.with(Kit.IFIN, 0, 0, Kit.ELSE, 0, 0, Kit.CALL, 2, 0, Kit.END, 0, 0));
    }

    private static void currentProtocol() {
        TypestateChecker x = Kit.with(Kit.CALL, 0, 0);
        says("undeclared", REJECTED, x);
        x.declare(0, 0, 0, 1);
        says("declared since", ACCEPTED, x);
        x.setClass(0, 1);
        says("of another class since", REJECTED, x);
        x.declare(1, 0, 2, 2);
        says("declared for another state", REJECTED, x);
        x.declare(1, 0, 0, 2);
        says("declared anew", ACCEPTED, x);
        x.add(Kit.CALL, 0, 0);
        says("one statement more", REJECTED, x);
        x.add(Kit.END, 0, 0);
        says("an END more", MALFORMED, x);
        x.clear();
        says("cleared", ACCEPTED, x);
    }

    private static void changesNothing() {
        TypestateChecker x = Kit.file(Kit.LOOP, 0, 0, Kit.CALL, 0, 0, Kit.END, 0, 0);
        x.run(1, 3);
        String machine = Kit.machine(x);
        String checker = Kit.checker(x);
        for (int i = 0; i < 3; i++) says("again", REJECTED, x);
        due.is("the machine after check()", Kit.machine(x), machine);
        due.is("the checker after check()", Kit.checker(x), checker);
    }

    private static void acceptedRunsDoNotFault() {
        TypestateChecker x = Kit.file(Kit.LOOP, 0, 0, Kit.CALL, 0, 0, Kit.SHARE, 2, 0, Kit.LOOP, 0, 0,
            Kit.CALL, 2, 1, Kit.END, 0, 0, Kit.IF, 0, 0, Kit.MERGE, 0, 2, Kit.ELSE, 0, 0, Kit.CALL, 0, 1,
            Kit.MERGE, 0, 2, Kit.END, 0, 0, Kit.CALL, 0, 2, Kit.END, 0, 0);
        says("the program", ACCEPTED, x);
        int[] steps = {Integer.MIN_VALUE, -1, 0, 1, 2, 3, 5, 8, 13, 50, 500, 4096, 4097, Integer.MAX_VALUE};
        int choices = 1;
        for (int i = 0; i < 400; i++) {
            choices = choices * 1103515245 + 12345;
            for (int n : steps) {
                int answer = x.run(choices, n);
                boolean fine = answer == TypestateChecker.RUN_DONE || answer == TypestateChecker.RUN_OUT;
                due.is("run(" + choices + ", " + n + ") without a fault", fine, true);
                due.is("permissions of each object at most FULL", held(x, 0) <= 2 && held(x, 1) <= 2, true);
            }
        }
    }

    private static int held(TypestateChecker x, int obj) {
        int sum = 0;
        for (int l = 0; l < 3; l++) if (x.localObject(l) == obj) sum += x.localPerm(l);
        return sum;
    }
}

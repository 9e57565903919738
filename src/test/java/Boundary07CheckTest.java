/** Promise 7, sentence by sentence: the empty and the full program, the first and the last fault, and far repetitions. */
public final class Boundary07CheckTest {
    private static final Section section = new Section("Boundary07CheckTest", "## Promise 7: Checking the program", "## ");
    private static final Due due = section.due;
    private static final int ACCEPTED = TypestateChecker.ACCEPTED, REJECTED = TypestateChecker.REJECTED,
        MALFORMED = TypestateChecker.MALFORMED;
    private static final int[] CHOICES = {0, 1, 2, 3, 5, 6, 0x55555555, 0xaaaaaaaa, 0x33333333, 0x0f0f0f0f,
        0x7fffffff, Integer.MIN_VALUE, -2, -1};
    private static final int[] BUDGETS = {Integer.MIN_VALUE, -1, 0, 1, 2, 3, 4, 5, 10, 31, 32, 33, 4095, 4096, 4097,
        Integer.MAX_VALUE};

    public static void main(String[] args) {
        section.sentence("`check()` answers MALFORMED if the program is malformed;", Boundary07CheckTest::malformed);
        section.sentence("else REJECTED if some reachable configuration faults;", Boundary07CheckTest::rejected);
        section.sentence("else ACCEPTED.", Boundary07CheckTest::accepted);
        section.sentence("It changes nothing.", () -> Situations.ask(due, "check()", TypestateChecker::check));
        section.sentence("The answer considers every sequence of decisions, of any finite length,",
            Boundary07CheckTest::everySequence);
        section.sentence("through every branch", Boundary07CheckTest::everyBranch);
        section.sentence("and every number of loop repetitions,", Boundary07CheckTest::everyRepetition);
        section.sentence("and uses the current declarations and classes.", Boundary07CheckTest::currentProtocol);
        section.sentence("Consequently, when `check()` answers ACCEPTED and the program, declarations and classes are not "
            + "changed in between, for every int `c` and every int `n`, `run(c, n)` answers RUN_DONE or RUN_OUT, never one "
            + "of F_NULL..F_MERGE nor MALFORMED.", Boundary07CheckTest::acceptedRuns);
        section.sentence("For such programs every CALL the machine executes finds its object in the method's declared "
            + "required state,", () -> everyCall(false));
        section.sentence("every CALL whose resulting state differs from its required state is made through a local holding "
            + "FULL permission,", () -> everyCall(true));
        section.sentence("and after any run, for each object, the permissions held by the locals referring to it sum to at "
            + "most FULL.", Boundary07CheckTest::permissionSums);
        section.end();
    }

    private static void says(String what, int want, TypestateChecker x) {
        due.is("check() of " + what, x.check(), want);
    }

    private static void malformed() {
        for (int[] statements : Programs.MALFORMED) says("a malformed program", MALFORMED, Kit.file(statements));
        // A fault on the way does not matter, and one END more or less makes the difference on both sides.
        TypestateChecker x = Kit.file(Kit.CALL, 2, 0, Kit.IF, 0, 0);
        says("an open IF", MALFORMED, x);
        x.add(Kit.END, 0, 0);
        says("a closed IF", REJECTED, x);
        x.add(Kit.END, 0, 0);
        says("a doubly closed IF", MALFORMED, x);
        x.add(Kit.IF, 0, 0);
        says("as many IF as END, in the wrong order", MALFORMED, x);
        x.clear();
        says("the cleared program", ACCEPTED, x);
    }

    private static void rejected() {
        for (int[] statements : Programs.REJECTED) says("a rejected program", REJECTED, Kit.file(statements));
        for (int at = 0; at < 16; at++) {
            int[] before = Programs.repeat(at, Kit.DROP, 2, 0), after = Programs.repeat(15 - at, Kit.DROP, 2, 0);
            int[] statements = Programs.join(Programs.join(before, new int[] {Kit.CALL, 2, 0}), after);
            says("a fault at " + at + " of 16", REJECTED, Kit.with(statements));
        }
    }

    private static void accepted() {
        for (int[] statements : Programs.ACCEPTED) says("an accepted program", ACCEPTED, Kit.file(statements));
        says("the empty program", ACCEPTED, new TypestateChecker(8));
        // Every fault here stands where no configuration comes.
        says("a fault behind a state that is never reached", ACCEPTED, Kit.file(Kit.IFIN, 0, 3, Kit.CALL, 2, 0,
            Kit.SHARE, 1, 0, Kit.MERGE, 0, 1, Kit.END, 0, 0));
    }

    private static void everySequence() {
        // One of four ways through two decisions faults, each in its turn.
        for (int way = 0; way < 4; way++) {
            int[] s = {Kit.IF, 0, 0, Kit.IF, 0, 0, Kit.DROP, 2, 0, Kit.ELSE, 0, 0, Kit.DROP, 2, 0, Kit.END, 0, 0,
                Kit.ELSE, 0, 0, Kit.IF, 0, 0, Kit.DROP, 2, 0, Kit.ELSE, 0, 0, Kit.DROP, 2, 0, Kit.END, 0, 0, Kit.END, 0, 0};
            says("four ways", ACCEPTED, Kit.with(s));
            int at = new int[] {2, 4, 8, 10}[way];
            s[3 * at] = Kit.CALL;
            TypestateChecker x = Kit.with(s);
            says("four ways, of which way " + way + " faults", REJECTED, x);
            due.is("faultPc() of way " + way, x.faultPc(), at);
        }
        sevenInARow();
        farAway();
    }

    private static void sevenInARow() {
        int[] s = Programs.join(Programs.repeat(7, Kit.IF, 0, 0), Programs.join(new int[] {Kit.CALL, 2, 0},
            Programs.repeat(7, Kit.END, 0, 0)));
        TypestateChecker x = Kit.with(s);
        for (int choices = 0; choices < 127; choices++)
            due.is("run(" + choices + ", 99)", x.run(choices, 99), TypestateChecker.RUN_DONE);
        due.is("run(127, 99)", x.run(127, 99), TypestateChecker.F_NULL);
        says("seven decisions that must all be 1", REJECTED, x);
    }

    private static void farAway() {
        TypestateChecker x = Far.fault();
        says("a fault after 58 steps", REJECTED, x);
        due.is("faultPc()", x.faultPc(), 6);
        due.is("faultKind()", x.faultKind(), TypestateChecker.F_SPLIT);
        due.is("run(0xfff, 58)", x.run(0xfff, 58), TypestateChecker.RUN_OUT);
        due.is("run(0xfff, 59)", x.run(0xfff, 59), TypestateChecker.F_SPLIT);
        x.declare(1, 0, 0, 0);
        says("the same with a method that holds both objects in state 0", ACCEPTED, x);
        says("a fault behind 153 configurations", REJECTED, Far.faultBehindMany());
    }

    private static void everyBranch() {
        int[][] branches = {{Kit.IF, 0, 0}, {Kit.IFIN, 0, 0}, {Kit.IFIN, 0, 1}};
        boolean[][] taken = {{true, true}, {true, false}, {false, true}};
        for (int i = 0; i < 3; i++) {
            TypestateChecker then = Kit.with(branches[i]);
            Kit.append(then, Kit.CALL, 2, 0, Kit.ELSE, 0, 0, Kit.END, 0, 0);
            says("a fault in the first part of " + i, taken[i][0] ? REJECTED : ACCEPTED, then);
            TypestateChecker other = Kit.with(branches[i]);
            Kit.append(other, Kit.ELSE, 0, 0, Kit.CALL, 2, 0, Kit.END, 0, 0);
            says("a fault in the ELSE part of " + i, taken[i][1] ? REJECTED : ACCEPTED, other);
            TypestateChecker after = Kit.with(branches[i]);
            Kit.append(after, Kit.DROP, 0, 0, Kit.ELSE, 0, 0, Kit.DROP, 1, 0, Kit.END, 0, 0, Kit.SHARE, 2, 0);
            says("a fault after the first part of " + i, taken[i][0] ? REJECTED : ACCEPTED, after);
            TypestateChecker skipped = Kit.with(branches[i]);
            Kit.append(skipped, Kit.SHARE, 2, 0, Kit.END, 0, 0, Kit.MERGE, 0, 2);
            says("a fault after skipping " + i, taken[i][1] ? REJECTED : ACCEPTED, skipped);
        }
    }

    private static void everyRepetition() {
        says("a fault after no repetition", REJECTED,
            Kit.with(Kit.LOOP, 0, 0, Kit.SHARE, 2, 0, Kit.MERGE, 2, 0, Kit.SHARE, 0, 2, Kit.END, 0, 0, Kit.CALL, 2, 0));
        says("a fault in the first repetition", REJECTED, Kit.with(Kit.LOOP, 0, 0, Kit.CALL, 2, 0, Kit.END, 0, 0));
        says("a fault after one repetition", REJECTED,
            Kit.with(Kit.LOOP, 0, 0, Kit.DROP, 0, 0, Kit.END, 0, 0, Kit.SHARE, 2, 0));
        says("a fault in the second repetition", REJECTED, Kit.with(Kit.LOOP, 0, 0, Kit.SHARE, 2, 0, Kit.END, 0, 0));
        says("any number of repetitions", ACCEPTED, Kit.with(Kit.LOOP, 0, 0, Kit.DROP, 0, 0, Kit.END, 0, 0));
        sixthRepetition();
    }

    /** Object 0 goes to and fro; each time it comes back object 1 goes on by one, and the third time faults. */
    private static void sixthRepetition() {
        TypestateChecker x = Kit.with(Kit.LOOP, 0, 0, Kit.IFIN, 0, 0, Kit.CALL, 0, 0, Kit.ELSE, 0, 0, Kit.CALL, 0, 1,
            Kit.IFIN, 1, 0, Kit.CALL, 1, 0, Kit.ELSE, 0, 0, Kit.IFIN, 1, 1, Kit.CALL, 1, 1, Kit.ELSE, 0, 0, Kit.CALL, 2, 0,
            Kit.END, 0, 0, Kit.END, 0, 0, Kit.END, 0, 0, Kit.END, 0, 0);
        x.setClass(1, 1);
        x.declare(0, 0, 0, 1);
        x.declare(0, 1, 1, 0);
        x.declare(1, 0, 0, 1);
        x.declare(1, 1, 1, 2);
        for (int times = 0; times < 6; times++)
            due.is(times + " repetitions", x.run((1 << times) - 1, 4096), TypestateChecker.RUN_DONE);
        due.is("six repetitions", x.run(63, 4096), TypestateChecker.F_NULL);
        says("a fault in the sixth repetition", REJECTED, x);
        due.is("faultPc()", x.faultPc(), 11);
        x.declare(1, 1, 1, 1);
        says("the same, held back in the fourth", ACCEPTED, x);
    }

    private static void currentProtocol() {
        TypestateChecker x = Kit.with(Kit.CALL, 0, 0, Kit.CALL, 1, 0);
        says("calls of an undeclared method", REJECTED, x);
        x.declare(0, 0, 0, 1);
        says("calls of a method declared since", ACCEPTED, x);
        x.declare(0, 0, 1, 1);
        says("calls of a method declared anew", REJECTED, x);
        x.declare(0, 0, 0, 0);
        says("calls of a method declared once more", ACCEPTED, x);
        x.declare(0, 0, 4, 0);
        says("calls after a refused declaration", ACCEPTED, x);
        x.setClass(1, 1);
        says("calls on an object of another class", REJECTED, x);
        x.declare(1, 0, 0, 3);
        says("calls of that class's method", ACCEPTED, x);
        x.setClass(0, 1);
        says("calls on two objects of the other class", ACCEPTED, x);
        x.setClass(0, 2);
        says("calls after a refused class", ACCEPTED, x);
        x.declare(1, 0, 3, 3);
        says("calls of the other class's method declared anew", REJECTED, x);
        x.setClass(0, 0);
        x.setClass(1, 0);
        says("calls on two objects of the first class", ACCEPTED, x);
    }

    private static void acceptedRuns() {
        for (int[] statements : Programs.ACCEPTED) {
            TypestateChecker x = Kit.file(statements);
            says("an accepted program", ACCEPTED, x);
            for (int c : CHOICES) {
                for (int n : BUDGETS) {
                    int answer = x.run(c, n);
                    boolean fine = answer == TypestateChecker.RUN_DONE || answer == TypestateChecker.RUN_OUT;
                    due.is("run(" + c + ", " + n + ") answers " + answer + ", which is allowed", fine, true);
                }
            }
            says("the program after its runs", ACCEPTED, x);
        }
    }

    /** The machine is stopped before each CALL and after it; Kit.file tells what each method requires. */
    private static void everyCall(boolean permission) {
        int[] required = {0, 1, 1}, resulting = {1, 1, 0};
        for (int[] statements : Programs.ACCEPTED) {
            TypestateChecker x = Kit.file(statements);
            for (int c : CHOICES) {
                for (int n = 0; n < 60 && x.run(c, n) == TypestateChecker.RUN_OUT; n++) {
                    int pc = x.machinePc();
                    if (statements[3 * pc] != Kit.CALL) continue;
                    int l = statements[3 * pc + 1], m = statements[3 * pc + 2], object = x.localObject(l);
                    due.is("the object called is one", Kit.in(0, object, 1), true);
                    if (!permission) due.is("its state", x.objState(object), required[m]);
                    else if (required[m] != resulting[m])
                        due.is("the permission", x.localPerm(l), TypestateChecker.FULL);
                    x.run(c, n + 1);
                    due.is("the pc after the call", x.machinePc(), pc + 1);
                    due.is("the state after the call", x.objState(object), resulting[m]);
                }
            }
        }
    }

    private static void permissionSums() {
        for (int[] statements : Programs.ACCEPTED) {
            TypestateChecker x = Kit.file(statements);
            for (int c : CHOICES) {
                for (int n = 0; n < 40; n++) {
                    x.run(c, n);
                    int[] sums = new int[2];
                    for (int l = 0; l < 3; l++) if (x.localObject(l) >= 0) sums[x.localObject(l)] += x.localPerm(l);
                    due.is("the sum for object 0 is at most FULL", sums[0] <= TypestateChecker.FULL, true);
                    due.is("the sum for object 1 is at most FULL", sums[1] <= TypestateChecker.FULL, true);
                }
            }
        }
    }
}

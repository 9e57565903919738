/** Promise 11, sentence by sentence: the edges of the budget, the 32 decisions coming round, and faults at the edge. */
public final class Boundary11RunTest {
    private static final Section section = new Section("Boundary11RunTest", "## Promise 11: Running the machine", "## ");
    private static final Due due = section.due;
    private static final int IF = Kit.IF, ELSE = Kit.ELSE, END = Kit.END, LOOP = Kit.LOOP, CALL = Kit.CALL,
        SHARE = Kit.SHARE, MERGE = Kit.MERGE, DROP = Kit.DROP, IFIN = Kit.IFIN;
    private static final int DONE = TypestateChecker.RUN_DONE, OUT = TypestateChecker.RUN_OUT;
    private static final int[] CHOICES = {Integer.MIN_VALUE, Integer.MIN_VALUE + 1, -2, -1, 0, 1, 2, 0x55555555,
        0xaaaaaaaa, Integer.MAX_VALUE};

    public static void main(String[] args) {
        section.sentence("`run(choices, steps)` first sets the machine to the initial configuration, `machinePc()` 0 and "
            + "`stepsDone()` 0.", Boundary11RunTest::startsAnew);
        section.sentence("If the program is malformed it answers MALFORMED, leaving the machine so.",
            Boundary11RunTest::malformed);
        section.sentence("Else n is steps clamped into 0..4096 (below 0 becomes 0, above 4096 becomes 4096), and the machine "
            + "repeatedly does:", Boundary11RunTest::budget);
        section.sentence("1. if pc == length, answer RUN_DONE;", Boundary11RunTest::done);
        section.sentence("2. if stepsDone == n, answer RUN_OUT;", Boundary11RunTest::out);
        section.sentence("3. execute the STEP at pc, where the k-th decision taken in this run (k counted from 0 within this "
            + "run) is bit (k mod 32) of choices, that is `(choices >>> (k % 32)) & 1`;", Boundary11RunTest::decisions);
        section.sentence("only IF and LOOP take decisions;", Boundary11RunTest::onlyIfAndLoop);
        section.sentence("4. if the step faults, answer the fault code; the configuration stays unchanged and machinePc is "
            + "the faulting index; stepsDone is not increased;", Boundary11RunTest::faults);
        section.sentence("5. else stepsDone += 1.", Boundary11RunTest::counts);
        section.sentence("Every non-faulting statement counts one step, ELSE, END and LOOP included.",
            Boundary11RunTest::everyStatementCounts);
        section.sentence("Because pc == length is tested first, a run of the empty program answers RUN_DONE even when n is 0;",
            Boundary11RunTest::emptyProgram);
        section.sentence("a non-empty well-formed program with n 0 answers RUN_OUT.", Boundary11RunTest::noBudget);
        section.sentence("Any int is accepted for choices, including negative ones;", Boundary11RunTest::anyChoices);
        section.sentence("decisions beyond the 32nd reuse the bits from bit 0 again.", Boundary11RunTest::comesRound);
        section.sentence("The machine configuration stays as the run left it until the next run or `clear()`.",
            Boundary11RunTest::stays);
        section.sentence("The program, the declarations and the classes are not changed by a run.",
            Boundary11RunTest::changesNoProgram);
        section.end();
    }

    private static void run(String what, TypestateChecker x, int choices, int steps, int answer, String machine) {
        String call = "run(" + choices + ", " + steps + ") of " + what;
        due.is(call, x.run(choices, steps), answer);
        due.is("the machine after " + call, Kit.machine(x), machine);
    }

    private static String untouched(int pc, int steps) {
        return "pc " + pc + " steps " + steps + " states 0 0 locals 0:2 1:2 -1:0";
    }

    private static void startsAnew() {
        for (Situations.Situation s : Situations.ALL) {
            TypestateChecker x = s.make().get();
            x.run(-1, 0);
            due.is("the machine of " + s.name() + " after a run without budget", Kit.machine(x), Kit.INITIAL_MACHINE);
        }
        TypestateChecker x = Kit.file(CALL, 0, 0, CALL, 1, 0, SHARE, 2, 0, DROP, 1, 0, CALL, 2, 2);
        for (int times = 0; times < 3; times++) {
            run("a fault", x, 0, 99, TypestateChecker.F_PERM, "pc 4 steps 4 states 1 1 locals 0:1 -1:0 0:1");
            run("a fault", x, 0, 1, OUT, "pc 1 steps 1 states 1 0 locals 0:2 1:2 -1:0");
            run("a fault", x, 0, 0, OUT, Kit.INITIAL_MACHINE);
        }
    }

    private static void malformed() {
        for (int[] statements : Programs.MALFORMED) {
            for (int choices : CHOICES) {
                for (int steps : new int[] {Integer.MIN_VALUE, -1, 0, 1, 2, 4095, 4096, 4097, Integer.MAX_VALUE}) {
                    TypestateChecker x = Kit.file(DROP, 0, 0);
                    x.run(0, 1);
                    Kit.program(x, statements);
                    run("a malformed program", x, choices, steps, TypestateChecker.MALFORMED, Kit.INITIAL_MACHINE);
                }
            }
        }
        TypestateChecker x = Kit.file(CALL, 0, 0, DROP, 1, 0);
        run("a good program", x, 0, 9, DONE, "pc 2 steps 2 states 1 0 locals 0:2 -1:0 -1:0");
        x.add(LOOP, 0, 0);
        run("the program with an open loop", x, 0, 9, TypestateChecker.MALFORMED, Kit.INITIAL_MACHINE);
        x.add(END, 0, 0);
        run("the program with a closed loop", x, 0, 9, DONE, "pc 4 steps 3 states 1 0 locals 0:2 -1:0 -1:0");
    }

    private static int clamped(int steps) {
        return steps < 0 ? 0 : steps > 4096 ? 4096 : steps;
    }

    private static void budget() {
        TypestateChecker two = Kit.with(LOOP, 0, 0, END, 0, 0);
        TypestateChecker three = Kit.with(LOOP, 0, 0, DROP, 2, 0, END, 0, 0);
        for (int steps : Kit.outside(0, 4096)) endless(two, three, steps);
        for (int steps = -3; steps < 40; steps++) endless(two, three, steps);
        for (int steps = 4090; steps < 4110; steps++) endless(two, three, steps);
        for (int bit = 0; bit < 32; bit++) endless(two, three, 1 << bit);
        // A program that ends takes no more of its budget than it needs.
        TypestateChecker short3 = Kit.with(DROP, 2, 0, DROP, 2, 0, DROP, 2, 0);
        for (int steps : Kit.around(0, 9)) {
            int n = Math.min(3, clamped(steps));
            run("three drops", short3, 0, steps, n == 3 ? DONE : OUT, untouched(n, n));
        }
    }

    private static void endless(TypestateChecker two, TypestateChecker three, int steps) {
        int n = clamped(steps);
        run("an endless loop of two", two, -1, steps, OUT, untouched(n % 2, n));
        run("an endless loop of three", three, -1, steps, OUT, untouched(n % 3, n));
    }

    private static void done() {
        for (int length = 0; length <= 16; length++) {
            TypestateChecker x = Kit.with(Programs.repeat(length, DROP, 2, 0));
            if (length > 0) run(length + " drops", x, 0, length - 1, OUT, untouched(length - 1, length - 1));
            run(length + " drops", x, 0, length, DONE, untouched(length, length));
            run(length + " drops", x, 0, length + 1, DONE, untouched(length, length));
            run(length + " drops", x, 0, 4097, DONE, untouched(length, length));
        }
        // The end is reached by jumps as well, and the budget may be spent just there.
        TypestateChecker jump = Kit.with(IF, 0, 0, DROP, 2, 0, END, 0, 0);
        run("an IF not entered", jump, 0, 1, DONE, untouched(3, 1));
        run("an IF entered", jump, 1, 2, OUT, untouched(2, 2));
        run("an IF entered", jump, 1, 3, DONE, untouched(3, 3));
        TypestateChecker loop = Kit.with(LOOP, 0, 0, END, 0, 0);
        run("a loop", loop, 7, 6, OUT, untouched(0, 6));
        run("a loop", loop, 7, 7, DONE, untouched(2, 7));
    }

    private static void out() {
        // With the budget spent before the faulting statement, the fault does not come.
        for (int at = 0; at < 16; at++) {
            TypestateChecker x = Kit.with(Programs.join(Programs.repeat(at, DROP, 2, 0), new int[] {CALL, 2, 0}));
            run("a fault at " + at, x, 0, at, OUT, untouched(at, at));
            run("a fault at " + at, x, 0, at + 1, TypestateChecker.F_NULL, untouched(at, at));
            run("a fault at " + at, x, 0, at - 1, OUT, untouched(at == 0 ? 0 : at - 1, at == 0 ? 0 : at - 1));
        }
        TypestateChecker far = Far.fault();
        due.is("58 steps before a fault", far.run(0xfff, 58), OUT);
        due.is("stepsDone()", far.stepsDone(), 58);
        due.is("and the fault", far.run(0xfff, 59), TypestateChecker.F_SPLIT);
        due.is("stepsDone()", far.stepsDone(), 58);
    }

    /**
     * The loop takes every second decision and is told to go on; the IF in it takes the others. A round is
     * three steps, or five where the IF is entered, so that the count of steps tells each decision.
     */
    private static void rounds(TypestateChecker x, int choices, int first, int stepsBefore, int rounds) {
        int steps = stepsBefore;
        int start = x.length() - 5;
        for (int i = 0; i < rounds; i++) {
            int k = first + 2 * i + 1;
            steps += (choices >>> (k % 32) & 1) == 1 ? 5 : 3;
            due.is("run(" + choices + ", " + steps + ")", x.run(choices, steps), OUT);
            due.is("machinePc() after decision " + k, x.machinePc(), start);
            x.run(choices, steps - 1);
            due.is("machinePc() one step before", x.machinePc(), start + 4);
        }
    }

    private static void decisions() {
        TypestateChecker odd = Kit.with(LOOP, 0, 0, IF, 0, 0, DROP, 2, 0, END, 0, 0, END, 0, 0);
        TypestateChecker even = Kit.with(IF, 0, 0, END, 0, 0, LOOP, 0, 0, IF, 0, 0, DROP, 2, 0, END, 0, 0, END, 0, 0);
        for (int bit = 0; bit < 32; bit++) {
            rounds(odd, 0x55555555 | 1 << bit, 0, 0, 16);
            rounds(odd, -1 ^ (bit % 2 == 1 ? 1 << bit : 0), 0, 0, 16);
            int set = 0xaaaaaaaa | 1 << bit;
            rounds(even, set, 1, 1 + (set & 1), 16);
            int cleared = -1 ^ (bit % 2 == 0 ? 1 << bit : 0);
            rounds(even, cleared, 1, 1 + (cleared & 1), 16);
        }
        countedFromZero();
    }

    /** However many decisions the run before took, the next one begins with bit 0. */
    private static void countedFromZero() {
        TypestateChecker x = Kit.with(LOOP, 0, 0, END, 0, 0, IF, 0, 0, DROP, 0, 0, END, 0, 0);
        for (int before = 0; before < 31; before++) {
            x.run((1 << before) - 1, 4096);
            due.is("steps of the run before", x.stepsDone(), 2 * before + 2);
            run("a loop and an IF", x, 2, 9, DONE, "pc 5 steps 4 states 0 0 locals -1:0 1:2 -1:0");
            run("a loop and an IF", x, 1, 9, DONE, untouched(5, 4));
        }
    }

    private static void onlyIfAndLoop() {
        int[][] before = {{}, {CALL, 0, 0}, {SHARE, 2, 0}, {SHARE, 2, 0, MERGE, 0, 2}, {DROP, 2, 0},
            {IFIN, 0, 0, END, 0, 0}, {IFIN, 0, 1, END, 0, 0}, {IFIN, 0, 0, ELSE, 0, 0, END, 0, 0},
            {IFIN, 0, 1, ELSE, 0, 0, END, 0, 0}, {IFIN, 0, 0, IFIN, 0, 1, ELSE, 0, 0, DROP, 2, 0, END, 0, 0, END, 0, 0}};
        for (int[] statements : before) taken(0, statements);
        int[][] one = {{IF, 0, 0, END, 0, 0}, {IF, 0, 0, ELSE, 0, 0, END, 0, 0}, {IF, 0, 0, DROP, 2, 0, ELSE, 0, 0, END, 0, 0}};
        for (int[] statements : one) taken(1, statements);
        TypestateChecker loop = Kit.with(LOOP, 0, 0, DROP, 2, 0, END, 0, 0, IF, 0, 0, DROP, 1, 0, END, 0, 0);
        for (int rounds = 0; rounds < 30; rounds++) {
            // As many ones as rounds, a nought to leave, and then the IF's decision.
            loop.run((1 << rounds) - 1, 4096);
            due.is("localPerm(1) after " + rounds + " rounds and a nought", loop.localPerm(1), TypestateChecker.FULL);
            loop.run((1 << rounds) - 1 | 2 << rounds, 4096);
            due.is("localPerm(1) after " + rounds + " rounds and a one", loop.localPerm(1), 0);
        }
    }

    /** After the statements an IF takes the decision of the given number, whatever the decisions before it. */
    private static void taken(int number, int[] statements) {
        TypestateChecker x = Kit.file(statements);
        Kit.append(x, IF, 0, 0, DROP, 1, 0, END, 0, 0);
        for (int choices = 0; choices < 16; choices++) {
            due.is("run(" + choices + ", 99)", x.run(choices, 99), DONE);
            boolean entered = (choices >> number & 1) == 1;
            due.is("localPerm(1) with choices " + choices, x.localPerm(1), entered ? 0 : TypestateChecker.FULL);
        }
    }

    private static void faults() {
        int[][] programs = {{CALL, 2, 0}, {CALL, 0, 3}, {CALL, 0, 1}, {SHARE, 2, 0, CALL, 2, 0}, {SHARE, 1, 0},
            {SHARE, 2, 0, DROP, 1, 0, SHARE, 1, 2}, {MERGE, 0, 1}, {SHARE, 2, 1, SHARE, 2, 0}, {SHARE, 2, 0, CALL, 0, 0},
            {DROP, 0, 0, SHARE, 2, 0}, {DROP, 0, 0, MERGE, 0, 1}, {DROP, 0, 0, MERGE, 1, 0}};
        int[] codes = {1, 2, 3, 4, 5, 6, 7, 5, 4, 1, 1, 1};
        for (int i = 0; i < programs.length; i++) {
            int last = programs[i].length / 3 - 1;
            faultsAt(Kit.file(programs[i]), last, last, codes[i]);
            // The same with other statements before, a decision among them, and with more behind the fault.
            TypestateChecker x = Kit.file(DROP, 2, 0, IF, 0, 0, DROP, 2, 0, END, 0, 0);
            Kit.append(x, programs[i]);
            Kit.append(x, DROP, 0, 0, DROP, 1, 0);
            faultsAt(x, last + 4, last + 4, codes[i]);
        }
        faultsAt(Kit.file(IFIN, 2, 0, END, 0, 0), 0, 0, TypestateChecker.F_NULL);
        faultsAt(Kit.file(CALL, 0, 0, LOOP, 0, 0, CALL, 0, 2, END, 0, 0), 2, 5, TypestateChecker.F_STATE);
    }

    private static void faultsAt(TypestateChecker x, int pc, int steps, int code) {
        due.is("the run that ends before the fault", x.run(-1, steps), OUT);
        String before = Kit.machine(x);
        due.is("machinePc() before the fault", x.machinePc(), pc);
        for (int budget : new int[] {steps + 1, steps + 2, 4096, 4097, Integer.MAX_VALUE}) {
            due.is("the fault code", x.run(-1, budget), code);
            due.is("machinePc() after the fault", x.machinePc(), pc);
            due.is("stepsDone() after the fault", x.stepsDone(), steps);
            due.is("the machine after the fault", Kit.machine(x), before);
        }
    }

    private static void counts() {
        TypestateChecker x = Kit.with(LOOP, 0, 0, LOOP, 0, 0, IF, 0, 0, ELSE, 0, 0, DROP, 2, 0, END, 0, 0, END, 0, 0,
            END, 0, 0);
        for (int n = 0; n < 300; n++) {
            due.is("run(-1, " + n + ")", x.run(-1, n), OUT);
            due.is("stepsDone() after run(-1, " + n + ")", x.stepsDone(), n);
        }
    }

    private static void everyStatementCounts() {
        steps("CALL", 1, 0, CALL, 0, 0);
        steps("SHARE", 1, 0, SHARE, 2, 0);
        steps("SHARE and MERGE", 2, 0, SHARE, 2, 0, MERGE, 0, 2);
        steps("DROP", 1, 0, DROP, 0, 0);
        steps("DROP of null", 1, 0, DROP, 2, 0);
        steps("IF not entered", 1, 0, IF, 0, 0, DROP, 2, 0, END, 0, 0);
        steps("IF, DROP and END", 3, 1, IF, 0, 0, DROP, 2, 0, END, 0, 0);
        steps("IF and ELSE", 2, 1, IF, 0, 0, ELSE, 0, 0, DROP, 2, 0, END, 0, 0);
        steps("IF, DROP and END behind ELSE", 3, 0, IF, 0, 0, ELSE, 0, 0, DROP, 2, 0, END, 0, 0);
        steps("IFIN and END", 2, 0, IFIN, 0, 0, END, 0, 0);
        steps("IFIN not entered", 1, 0, IFIN, 0, 1, END, 0, 0);
        steps("IFIN and ELSE", 2, 0, IFIN, 0, 0, ELSE, 0, 0, END, 0, 0);
        steps("IFIN and END behind ELSE", 2, 0, IFIN, 0, 1, ELSE, 0, 0, END, 0, 0);
        steps("LOOP not entered", 1, 0, LOOP, 0, 0, END, 0, 0);
        steps("LOOP, END and LOOP", 3, 1, LOOP, 0, 0, END, 0, 0);
        steps("LOOP, DROP, END twice and LOOP", 7, 3, LOOP, 0, 0, DROP, 2, 0, END, 0, 0);
    }

    private static void steps(String what, int steps, int choices, int... statements) {
        TypestateChecker x = Kit.file(statements);
        due.is("run of " + what, x.run(choices, 99), DONE);
        due.is("stepsDone() of " + what, x.stepsDone(), steps);
        due.is("run of " + what + " with that budget", x.run(choices, steps), DONE);
        due.is("run of " + what + " with one less", x.run(choices, steps - 1), OUT);
    }

    private static void emptyProgram() {
        TypestateChecker cleared = Situations.cleared();
        for (int steps : Kit.around(0, 3)) {
            for (int choices : CHOICES) {
                run("the empty program", new TypestateChecker(8), choices, steps, DONE, Kit.INITIAL_MACHINE);
                run("the cleared program", cleared, choices, steps, DONE, Kit.INITIAL_MACHINE);
            }
        }
    }

    private static void noBudget() {
        int[][][] lists = {Programs.ACCEPTED, Programs.REJECTED};
        for (int[][] list : lists) {
            for (int[] statements : list) {
                if (statements.length == 0) continue;
                TypestateChecker x = Kit.file(statements);
                for (int steps : new int[] {Integer.MIN_VALUE, -4096, -1, 0}) {
                    run("a program", x, -1, steps, OUT, Kit.INITIAL_MACHINE);
                    run("a program", x, 0, steps, OUT, Kit.INITIAL_MACHINE);
                }
                x.run(0, 1);
                boolean moved = x.stepsDone() == 1 || x.faultPc() == 0;
                due.is("with one step more it goes on, or faults at once", moved, true);
            }
        }
    }

    private static void anyChoices() {
        TypestateChecker x = Kit.with(IF, 0, 0, DROP, 0, 0, END, 0, 0);
        TypestateChecker loop = Kit.with(LOOP, 0, 0, END, 0, 0);
        for (int choices : CHOICES) {
            due.is("run(" + choices + ", 9)", x.run(choices, 9), DONE);
            due.is("localPerm(0) after it", x.localPerm(0), choices % 2 == 0 ? TypestateChecker.FULL : 0);
            int ones = Integer.numberOfTrailingZeros(~choices);
            due.is("a loop on run(" + choices + ", 4096)", loop.run(choices, 4096), ones == 32 ? OUT : DONE);
            due.is("its steps", loop.stepsDone(), ones == 32 ? 4096 : 2 * ones + 1);
        }
        // Bit 31 is a decision like the others: only here the sign counts.
        due.is("run(0x7fffffff, 4096)", loop.run(0x7fffffff, 4096), DONE);
        due.is("stepsDone()", loop.stepsDone(), 63);
        due.is("run(0xffffffff, 4096)", loop.run(0xffffffff, 4096), OUT);
    }

    private static void comesRound() {
        // Eight loops in a row leave at the one nought, each time the 32 decisions have come round once more.
        TypestateChecker loops = new TypestateChecker(16);
        for (int i = 0; i < 8; i++) Kit.append(loops, LOOP, 0, 0, END, 0, 0);
        for (int bit = 0; bit < 32; bit++) {
            due.is("eight loops", loops.run(~(1 << bit), 4096), DONE);
            due.is("their steps with the nought at " + bit, loops.stepsDone(), 2 * bit + 1 + 7 * 63);
        }
        TypestateChecker odd = Kit.with(LOOP, 0, 0, IF, 0, 0, DROP, 2, 0, END, 0, 0, END, 0, 0);
        for (int choices : new int[] {0x55555557, 0xd5555555, 0x5d755575, 0x7fffffff, 0xfffffffd})
            rounds(odd, choices, 0, 0, 800);
        // Loops take the first 31, 32 or 33 decisions, and then comes an IF.
        TypestateChecker x = Kit.with(LOOP, 0, 0, END, 0, 0, LOOP, 0, 0, END, 0, 0, IF, 0, 0, DROP, 0, 0, END, 0, 0);
        due.is("the IF takes decision 32, which is bit 0", ifAfter(x, ~(1 << 31 | 1 << 30)), true);
        due.is("the IF takes decision 32, which is bit 0", ifAfter(x, ~(1 << 31 | 1 << 30 | 1)), false);
        due.is("the IF takes decision 31, which is bit 31", ifAfter(x, ~(1 << 30 | 1 << 29)), true);
        due.is("the IF takes decision 31, which is bit 31", ifAfter(x, ~(1 << 31 | 1 << 30 | 1 << 29)), false);
        Kit.program(x, LOOP, 0, 0, END, 0, 0, LOOP, 0, 0, END, 0, 0, LOOP, 0, 0, END, 0, 0, IF, 0, 0, DROP, 0, 0, END, 0, 0);
        due.is("the IF takes decision 33, which is bit 1", ifAfter(x, ~(1 << 31 | 1)), true);
        due.is("the IF takes decision 34, which is bit 2", ifAfter(x, ~(1 << 31 | 2)), true);
        due.is("the IF takes decision 32, which is bit 0", ifAfter(x, ~(1 << 31 | 2 | 1)), false);
    }

    private static boolean ifAfter(TypestateChecker x, int choices) {
        x.run(choices, 4096);
        return x.localPerm(0) == 0;
    }

    private static void stays() {
        for (Situations.Situation s : Situations.ALL) {
            TypestateChecker x = s.make().get();
            String machine = Kit.machine(x);
            x.declare(0, 0, 2, 2);
            x.declare(1, 1, 9, 9);
            x.setClass(0, 1);
            x.setClass(1, -1);
            x.add(Kit.DROP, 0, 0);
            x.add(Kit.END, 0, 0);
            x.add(0, 0, 0);
            Kit.checker(x);
            due.is("the machine of " + s.name() + " after everything but run and clear", Kit.machine(x), machine);
        }
        TypestateChecker x = Kit.file(CALL, 0, 0, DROP, 1, 0);
        run("two statements", x, 0, 9, DONE, "pc 2 steps 2 states 1 0 locals 0:2 -1:0 -1:0");
        x.add(DROP, 0, 0);
        due.is("the machine after add", Kit.machine(x), "pc 2 steps 2 states 1 0 locals 0:2 -1:0 -1:0");
        run("three statements", x, 0, 1, OUT, "pc 1 steps 1 states 1 0 locals 0:2 1:2 -1:0");
        x.clear();
        due.is("the machine after clear", Kit.machine(x), Kit.INITIAL_MACHINE);
    }

    private static void changesNoProgram() {
        for (int classes = 0; classes < 4; classes++) {
            int c0 = classes & 1, c1 = classes >> 1;
            TypestateChecker x = Whole.allCalled(c0, c1);
            for (int steps = -1; steps < 10; steps++) {
                x.run(steps, steps);
                due.is("the checker after runs", Kit.checker(x), Whole.allAccepted(c0, c1));
            }
        }
        for (Situations.Situation s : Situations.ALL) {
            String once = Whole.of(Situations.after(s.make(), x -> x.run(0, 0)));
            String often = Whole.of(Situations.after(s.make(), x -> {
                for (int choices : CHOICES) for (int steps = -1; steps < 30; steps++) x.run(choices, steps);
                x.run(-1, 4097);
                x.run(0, 0);
            }));
            due.is(s.name() + " after many runs", often, once);
        }
    }
}

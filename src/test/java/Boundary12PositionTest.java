/** Promise 12, sentence by sentence: the pc and the steps after each way that a run can end. */
public final class Boundary12PositionTest {
    private static final Section section =
        new Section("Boundary12PositionTest", "## Promise 12: Machine position and step count", "## ");
    private static final Due due = section.due;
    private static final int IF = Kit.IF, ELSE = Kit.ELSE, END = Kit.END, LOOP = Kit.LOOP, CALL = Kit.CALL,
        DROP = Kit.DROP;
    private static final int[] CHOICES = {0, 1, 2, 3, 5, 0x55555555, 0x7fffffff, Integer.MIN_VALUE, -2, -1};

    public static void main(String[] args) {
        section.sentence("`machinePc()` answers the machine's pc: 0 after construction, `clear()` or a MALFORMED run;",
            () -> nought(true));
        section.sentence("in 0..length after a run that did not fault (length after RUN_DONE);",
            Boundary12PositionTest::withinTheProgram);
        section.sentence("the faulting index after a run that answered a fault code.",
            Boundary12PositionTest::faultingIndex);
        section.sentence("`stepsDone()` answers the steps completed by the last run: 0 after construction, `clear()`, or a "
            + "MALFORMED run;", () -> nought(false));
        section.sentence("after RUN_OUT it equals the clamped budget n;", Boundary12PositionTest::budget);
        section.sentence("otherwise it is the number of non-faulting statements executed.",
            Boundary12PositionTest::statementsExecuted);
        section.sentence("Both change nothing.", Boundary12PositionTest::changeNothing);
        section.end();
    }

    private static int answer(TypestateChecker x, boolean pc) {
        return pc ? x.machinePc() : x.stepsDone();
    }

    private static void nought(boolean pc) {
        String what = pc ? "machinePc()" : "stepsDone()";
        for (int capacity : Kit.around(8, 16)) due.is(what + " when new", answer(new TypestateChecker(capacity), pc), 0);
        for (Situations.Situation s : Situations.ALL) {
            TypestateChecker x = s.make().get();
            x.clear();
            due.is(what + " of " + s.name() + " when cleared", answer(x, pc), 0);
        }
        for (int[] statements : Programs.MALFORMED) {
            TypestateChecker x = Kit.with(DROP, 0, 0, DROP, 1, 0);
            x.run(0, 9);
            due.is(what + " before", answer(x, pc), 2);
            Kit.program(x, statements);
            for (int n : new int[] {-1, 0, 1, 16, 4096}) {
                due.is("run", x.run(-1, n), TypestateChecker.MALFORMED);
                due.is(what + " after a malformed run", answer(x, pc), 0);
            }
        }
        TypestateChecker x = Kit.with(DROP, 0, 0);
        x.run(0, 9);
        x.add(END, 0, 0);
        due.is(what + " until the malformed run", answer(x, pc), 1);
        x.run(0, 9);
        due.is(what + " after the malformed run", answer(x, pc), 0);
    }

    private static void withinTheProgram() {
        for (int[] statements : Programs.ACCEPTED) {
            TypestateChecker x = Kit.file(statements);
            int length = statements.length / 3;
            for (int c : CHOICES) {
                for (int n = 0; n < 40; n++) {
                    boolean done = x.run(c, n) == TypestateChecker.RUN_DONE;
                    due.is("machinePc() is in 0..length", Kit.in(0, x.machinePc(), length), true);
                    due.is("machinePc() is the length just when done", x.machinePc() == length, done);
                }
            }
        }
        for (int length = 0; length <= 16; length++) {
            TypestateChecker x = Kit.with(Programs.repeat(length, DROP, 1, 0));
            for (int n = -1; n <= 18; n++) {
                x.run(0, n);
                due.is("machinePc() of " + length + " drops", x.machinePc(), n < 0 ? 0 : Math.min(n, length));
            }
        }
    }

    private static void faultingIndex() {
        for (int at = 0; at < 16; at++) {
            TypestateChecker x = Kit.with(Programs.join(Programs.repeat(at, DROP, 0, 0), new int[] {CALL, 2, 0}));
            while (x.length() < 16) x.add(DROP, 1, 0);
            due.is("run with a fault at " + at, x.run(0, 4096), TypestateChecker.F_NULL);
            due.is("machinePc()", x.machinePc(), at);
        }
        TypestateChecker loop = Kit.file(LOOP, 0, 0, IF, 0, 0, CALL, 0, 0, ELSE, 0, 0, CALL, 0, 1, END, 0, 0, END, 0, 0);
        due.is("run(1, 99)", loop.run(1, 99), TypestateChecker.F_STATE);
        due.is("machinePc() where the first round takes the ELSE", loop.machinePc(), 4);
        due.is("run(3, 99)", loop.run(3, 99), TypestateChecker.RUN_DONE);
        due.is("machinePc() after one good round", loop.machinePc(), 7);
        due.is("run(7, 99)", loop.run(7, 99), TypestateChecker.RUN_DONE);
        due.is("machinePc() after two good rounds", loop.machinePc(), 7);
        due.is("run(15, 99)", loop.run(15, 99), TypestateChecker.F_STATE);
        due.is("machinePc() where the second round opens again", loop.machinePc(), 2);
    }

    private static void budget() {
        TypestateChecker x = Kit.with(LOOP, 0, 0, DROP, 2, 0, END, 0, 0);
        for (int n : Kit.around(4090, 4096)) {
            due.is("run(-1, " + n + ")", x.run(-1, n), TypestateChecker.RUN_OUT);
            due.is("stepsDone() after it", x.stepsDone(), n < 0 ? 0 : n > 4096 ? 4096 : n);
        }
        for (int n = -3; n < 70; n++) {
            due.is("run(-1, " + n + ")", x.run(-1, n), TypestateChecker.RUN_OUT);
            due.is("stepsDone() after it", x.stepsDone(), n < 0 ? 0 : n);
        }
    }

    private static void statementsExecuted() {
        for (int length = 0; length <= 16; length++) {
            TypestateChecker x = Kit.with(Programs.repeat(length, DROP, 1, 0));
            for (int n : new int[] {length, length + 1, 4096, 4097, Integer.MAX_VALUE}) {
                x.run(0, n);
                due.is("stepsDone() of " + length + " drops", x.stepsDone(), length);
            }
        }
        TypestateChecker loop = Kit.with(LOOP, 0, 0, DROP, 2, 0, END, 0, 0, CALL, 2, 0);
        for (int rounds = 0; rounds < 32; rounds++) {
            // The fault behind the loop is no step, and the last LOOP, which leaves, is one.
            int choices = rounds == 31 ? 0x7fffffff : (1 << rounds) - 1;
            due.is("run", loop.run(choices, 4096), TypestateChecker.F_NULL);
            due.is("stepsDone() after " + rounds + " rounds and a fault", loop.stepsDone(), 3 * rounds + 1);
        }
        TypestateChecker jump = Kit.file(IF, 0, 0, CALL, 0, 0, ELSE, 0, 0, DROP, 2, 0, DROP, 2, 0, END, 0, 0);
        jump.run(1, 99);
        due.is("stepsDone() over the first part", jump.stepsDone(), 3);
        jump.run(0, 99);
        due.is("stepsDone() over the ELSE part", jump.stepsDone(), 4);
        TypestateChecker atOnce = Kit.with(CALL, 2, 0);
        atOnce.run(0, 99);
        due.is("stepsDone() after a fault at once", atOnce.stepsDone(), 0);
    }

    private static void changeNothing() {
        // Known numbers, asked in turn: what shows the machine elsewhere asks for both itself.
        TypestateChecker x = Kit.with(LOOP, 0, 0, DROP, 2, 0, END, 0, 0);
        x.run(-1, 8);
        for (int times = 0; times < 3; times++) {
            due.is("machinePc() in its turn", x.machinePc(), 2);
            due.is("stepsDone() in its turn", x.stepsDone(), 8);
            due.is("stepsDone() again", x.stepsDone(), 8);
        }
        Situations.ask(due, "machinePc() and stepsDone()", y -> {
            y.machinePc();
            y.stepsDone();
        });
    }
}

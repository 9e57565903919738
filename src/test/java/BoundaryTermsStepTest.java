import java.util.ArrayList;
import java.util.List;
import java.util.function.Predicate;

/**
 * The terms 'Step' and 'Reachable', sentence by sentence. A statement without a jump is tried from every
 * configuration of locals and states; a jump is tried over blocks of many lengths.
 */
public final class BoundaryTermsStepTest {
    private static final Section section = new Section("BoundaryTermsStepTest", "**Step.**", "## Promise 1: Construction");
    private static final Due due = section.due;
    private static final int IF = Kit.IF, ELSE = Kit.ELSE, END = Kit.END, LOOP = Kit.LOOP, CALL = Kit.CALL,
        SHARE = Kit.SHARE, MERGE = Kit.MERGE, DROP = Kit.DROP, IFIN = Kit.IFIN;
    private static final int NULL = TypestateChecker.F_NULL, UNDECLARED = TypestateChecker.F_UNDECLARED,
        STATE = TypestateChecker.F_STATE, PERM = TypestateChecker.F_PERM, OCCUPIED = TypestateChecker.F_OCCUPIED,
        SPLIT = TypestateChecker.F_SPLIT, DIFFERENT = TypestateChecker.F_MERGE;
    private static final int OUT = TypestateChecker.RUN_OUT;

    /** A statement tried from a setup, with the questions that its sentences ask. */
    private record Try(Setups.Setup at, int op, int a, int b) {
        boolean isNull(int l) {
            return at.objects()[l] < 0;
        }

        boolean isHalf(int l) {
            return at.perms()[l] == TypestateChecker.HALF;
        }

        int object() {
            return at.objects()[a];
        }

        int[] declaration() {
            return Setups.declaration(at, object(), b);
        }

        boolean undeclared() {
            return !isNull(a) && declaration() == null;
        }

        boolean wrongState() {
            return !isNull(a) && !undeclared() && at.states()[object()] != declaration()[0];
        }

        boolean lacksPermission() {
            return !isNull(a) && !undeclared() && declaration()[0] != declaration()[1] && isHalf(a);
        }

        boolean differ() {
            return at.objects()[a] != at.objects()[b];
        }
    }

    public static void main(String[] args) {
        order();
        call();
        share();
        merge();
        section.sentence("`DROP l`: l becomes null (also when it was null), pc+1.", () -> works(DROP, t -> true));
        jumps();
        reachable();
        section.end();
    }

    private static void order() {
        section.sentence("Executing the statement at pc from a configuration.", BoundaryTermsStepTest::oneStatement);
        section.sentence("Tests are made in the order written;", BoundaryTermsStepTest::twoFaultsAtOnce);
        section.sentence("a statement that faults changes nothing, and the fault code is its result.",
            BoundaryTermsStepTest::faultsChangeNothing);
    }

    private static void call() {
        section.sentence("`CALL l m`: l null gives F_NULL.", () -> faults(CALL, NULL, t -> t.isNull(t.a)));
        section.sentence("Let o be l's object and c its class.", BoundaryTermsStepTest::classOfTheObject);
        section.sentence("m undeclared for c gives F_UNDECLARED.", () -> faults(CALL, UNDECLARED, Try::undeclared));
        section.sentence("state(o) != required gives F_STATE.", () -> faults(CALL, STATE, Try::wrongState));
        section.sentence("resulting != required and l's permission != FULL gives F_PERM.",
            () -> faults(CALL, PERM, t -> t.lacksPermission() && !t.wrongState()));
        section.sentence("Else state(o) becomes resulting, pc+1.", () -> works(CALL,
            t -> !t.isNull(t.a) && !t.undeclared() && !t.wrongState() && !t.lacksPermission()));
    }

    private static void share() {
        section.sentence("`SHARE d s`: s null gives F_NULL.", () -> faults(SHARE, NULL, t -> t.isNull(t.b)));
        section.sentence("d not null gives F_OCCUPIED.", () -> faults(SHARE, OCCUPIED, t -> !t.isNull(t.b) && !t.isNull(t.a)));
        section.sentence("s's permission != FULL gives F_SPLIT.",
            () -> faults(SHARE, SPLIT, t -> t.isNull(t.a) && t.isHalf(t.b)));
        section.sentence("Else d holds s's object with HALF, s's permission becomes HALF, pc+1.",
            () -> works(SHARE, t -> t.isNull(t.a) && !t.isNull(t.b) && !t.isHalf(t.b)));
    }

    private static void merge() {
        section.sentence("`MERGE d s`: d null or s null gives F_NULL.",
            () -> faults(MERGE, NULL, t -> t.isNull(t.a) || t.isNull(t.b)));
        section.sentence("Different objects gives F_MERGE.",
            () -> faults(MERGE, DIFFERENT, t -> !t.isNull(t.a) && !t.isNull(t.b) && t.differ()));
        section.sentence("Else d's permission becomes the sum of both, s becomes null, pc+1.",
            () -> works(MERGE, t -> !t.isNull(t.a) && !t.differ()));
    }

    private static void jumps() {
        section.sentence("`IF`: takes a decision;", BoundaryTermsStepTest::ifDecides);
        section.sentence("1 gives pc+1;", () -> eachBlock(IF, true));
        section.sentence("0 gives (block's ELSE index)+1 if it has an ELSE, else (block's END index)+1.",
            () -> eachBlock(IF, false));
        section.sentence("`IFIN l s`: l null gives F_NULL;", () -> faults(IFIN, NULL, t -> t.isNull(t.a)));
        section.sentence("takes no decision;", BoundaryTermsStepTest::ifinTakesNone);
        section.sentence("condition true gives pc+1;", () -> eachBlock(IFIN, true));
        section.sentence("false behaves as IF on 0.", () -> eachBlock(IFIN, false));
        section.sentence("`ELSE`: pc becomes (its block's END index)+1.", BoundaryTermsStepTest::elseJumps);
        section.sentence("`LOOP`: takes a decision;", BoundaryTermsStepTest::loopDecides);
        section.sentence("1 gives pc+1;", () -> eachBlock(LOOP, true));
        section.sentence("0 gives (block's END index)+1.", () -> eachBlock(LOOP, false));
        section.sentence("`END`: of a LOOP block, pc becomes that LOOP's index;", BoundaryTermsStepTest::loopEnds);
        section.sentence("of an IF/IFIN block, pc+1.", BoundaryTermsStepTest::branchEnds);
        section.sentence("pc == length means the program has ended.", BoundaryTermsStepTest::hasEnded);
    }

    private static void reachable() {
        section.sentence("The initial configuration itself is reachable (zero steps).", BoundaryTermsStepTest::zeroSteps);
        section.sentence("A configuration is reachable if, for some finite sequence of decisions (each 0 or 1, chosen "
            + "freely), repeated steps from the initial configuration arrive at it with no fault on the way (no step limit).",
            BoundaryTermsStepTest::reached);
        section.sentence("A reachable configuration with pc < length faults if its step faults.",
            BoundaryTermsStepTest::reachedFaults);
    }

    private static List<Try> tries(int op, Predicate<Try> which) {
        List<Try> found = new ArrayList<>();
        for (Setups.Setup s : Setups.ALL) {
            for (int a = 0; a < 3; a++) {
                for (int b = 0; b < 4; b++) {
                    boolean two = op == SHARE || op == MERGE;
                    if (two && (b == 3 || a == b) || op == DROP && b > 0) continue;
                    Try t = new Try(s, op, a, b);
                    if (which.test(t)) found.add(t);
                }
            }
        }
        due.is("there is something to try", found.isEmpty(), false);
        return found;
    }

    private static TypestateChecker make(Try t) {
        TypestateChecker x = Setups.make(t.at, t.op, t.a, t.b);
        if (t.op == IFIN) x.add(END, 0, 0);
        return x;
    }

    /** From each configuration that is meant the statement faults so, and the machine stays before it. */
    private static void faults(int op, int code, Predicate<Try> which) {
        for (Try t : tries(op, which)) {
            TypestateChecker x = make(t);
            int pc = t.at.length();
            String what = op + " " + t.a + " " + t.b + " from " + t.at.machine(pc, pc);
            due.is("run before " + what, x.run(-1, pc), OUT);
            due.is("run of " + what, x.run(-1, pc + 1), code);
            due.is("the machine after " + what, Kit.machine(x), t.at.machine(pc, pc));
            due.is("faultPc() of " + what, x.faultPc(), pc);
            due.is("faultKind() of " + what, x.faultKind(), code);
            due.is("stateSet behind " + what, x.stateSet(pc + 1, 0), 0);
            due.is("localSet behind " + what, x.localSet(pc + 1, 2), 0);
        }
    }

    /** From each configuration that is meant the statement does its work and goes on by one. */
    private static void works(int op, Predicate<Try> which) {
        for (Try t : tries(op, which)) {
            TypestateChecker x = make(t);
            int pc = t.at.length();
            String what = op + " " + t.a + " " + t.b + " from " + t.at.machine(pc, pc);
            due.is("run of " + what, x.run(-1, pc + 1), TypestateChecker.RUN_DONE);
            due.is("the machine after " + what, Kit.machine(x), after(t).machine(pc + 1, pc + 1));
            due.is("check() of " + what, x.check(), TypestateChecker.ACCEPTED);
            for (int obj = 0; obj < 2; obj++)
                due.is("stateSet behind " + what, x.stateSet(pc + 1, obj), 1 << after(t).states()[obj]);
            for (int l = 0; l < 3; l++) due.is("localSet behind " + what, x.localSet(pc + 1, l), bit(after(t), l));
        }
    }

    private static int bit(Setups.Setup s, int l) {
        return s.objects()[l] < 0 ? 1 : 1 << 2 * s.objects()[l] + s.perms()[l];
    }

    private static Setups.Setup after(Try t) {
        if (t.op == CALL) return t.at.withState(t.object(), t.declaration()[1]);
        if (t.op == DROP) return t.at.withLocal(t.a, -1, 0);
        if (t.op == SHARE) {
            int object = t.at.objects()[t.b];
            return t.at.withLocal(t.a, object, 1).withLocal(t.b, object, 1);
        }
        int sum = t.at.perms()[t.a] + t.at.perms()[t.b];
        return t.at.withLocal(t.a, t.object(), sum).withLocal(t.b, -1, 0);
    }

    /** A run of one step more executes the statement at the pc and no other. */
    private static void oneStatement() {
        TypestateChecker x = Kit.file(CALL, 0, 0, SHARE, 2, 0, DROP, 1, 0, MERGE, 2, 0, CALL, 2, 2);
        String[] after = {"0 0 locals 0:2 1:2 -1:0", "1 0 locals 0:2 1:2 -1:0", "1 0 locals 0:1 1:2 0:1",
            "1 0 locals 0:1 -1:0 0:1", "1 0 locals -1:0 -1:0 0:2", "0 0 locals -1:0 -1:0 0:2"};
        for (int n = 0; n <= 5; n++) {
            x.run(0, n);
            due.is("after " + n + " steps", Kit.machine(x), "pc " + n + " steps " + n + " states " + after[n]);
        }
    }

    private static void twoFaultsAtOnce() {
        // CALL: nothing goes before null, and undeclared before state before permission.
        fault("null and undeclared", NULL, CALL, 2, 3);
        fault("undeclared and half", UNDECLARED, SHARE, 2, 0, CALL, 2, 3);
        fault("undeclared in another state", UNDECLARED, CALL, 0, 0, CALL, 0, 3);
        fault("wrong state and half", STATE, SHARE, 2, 0, CALL, 2, 2);
        fault("half alone", PERM, SHARE, 2, 0, CALL, 2, 0);
        // SHARE: null before occupied before split.
        fault("null and occupied", NULL, SHARE, 1, 2);
        fault("occupied and half", OCCUPIED, SHARE, 2, 0, SHARE, 1, 0);
        fault("occupied by its own other half", OCCUPIED, SHARE, 2, 0, SHARE, 0, 2);
        fault("half alone", SPLIT, SHARE, 2, 0, DROP, 1, 0, SHARE, 1, 0);
        // MERGE: null before different objects; a null local holds no object that could differ.
        fault("d null", NULL, MERGE, 2, 0);
        fault("s null", NULL, MERGE, 0, 2);
        fault("both null", NULL, DROP, 0, 0, MERGE, 0, 2);
        fault("different objects with a half", DIFFERENT, SHARE, 2, 0, MERGE, 2, 1);
    }

    private static void fault(String what, int code, int... statements) {
        TypestateChecker x = Kit.file(statements);
        int last = statements.length / 3 - 1;
        due.is("run with " + what, x.run(0, 99), code);
        due.is("machinePc() with " + what, x.machinePc(), last);
        due.is("faultPc() with " + what, x.faultPc(), last);
        due.is("faultKind() with " + what, x.faultKind(), code);
    }

    private static void faultsChangeNothing() {
        int[][] programs = {{CALL, 2, 0}, {CALL, 0, 3}, {CALL, 0, 1}, {SHARE, 2, 0, CALL, 2, 0}, {SHARE, 1, 0},
            {SHARE, 2, 0, DROP, 1, 0, SHARE, 1, 2}, {MERGE, 0, 1}, {IFIN, 2, 0, END, 0, 0}};
        int[] codes = {NULL, UNDECLARED, STATE, PERM, OCCUPIED, SPLIT, DIFFERENT, NULL};
        for (int i = 0; i < programs.length; i++) {
            TypestateChecker x = Kit.file(programs[i]);
            int at = x.faultPc();
            due.is("run before the fault " + codes[i], x.run(0, at), OUT);
            String before = Kit.machine(x);
            String sets = Kit.checker(x);
            due.is("run into the fault " + codes[i], x.run(0, 99), codes[i]);
            due.is("the machine after the fault " + codes[i], Kit.machine(x), before);
            due.is("the checker after the fault " + codes[i], Kit.checker(x), sets);
        }
    }

    /** The class counts of the object that the local holds now, not of the one it held at the start. */
    private static void classOfTheObject() {
        for (int c0 = 0; c0 < 2; c0++) {
            for (int c1 = 0; c1 < 2; c1++) {
                TypestateChecker x = Kit.with(DROP, 0, 0, SHARE, 0, 1, MERGE, 0, 1, CALL, 0, 0);
                x.setClass(0, c0);
                x.setClass(1, c1);
                x.declare(0, 0, 0, 2);
                x.declare(1, 0, 0, 3);
                due.is("run", x.run(0, 9), TypestateChecker.RUN_DONE);
                due.is("objState(0)", x.objState(0), 0);
                due.is("objState(1)", x.objState(1), 2 + c1);
                due.is("stateSet(4, 1)", x.stateSet(4, 1), 4 << c1);
            }
        }
    }

    private static void ifDecides() {
        TypestateChecker x = Kit.with(IF, 0, 0, END, 0, 0, IF, 0, 0, DROP, 0, 0, END, 0, 0);
        for (int choices = 0; choices < 8; choices++) {
            x.run(choices, 9);
            due.is("localPerm(0) after two IF on " + choices, x.localPerm(0), (choices & 2) == 0 ? 2 : 0);
        }
    }

    private static void loopDecides() {
        TypestateChecker x = Kit.with(LOOP, 0, 0, END, 0, 0, IF, 0, 0, DROP, 0, 0, END, 0, 0);
        for (int choices = 0; choices < 8; choices++) {
            // The loop takes all ones and the nought behind them, and the IF takes the next.
            x.run(choices, 20);
            int ones = Integer.numberOfTrailingZeros(~choices);
            due.is("localPerm(0) after a loop and an IF on " + choices, x.localPerm(0),
                (choices >> ones + 1 & 1) == 1 ? 0 : 2);
        }
    }

    private static void ifinTakesNone() {
        for (int state = 0; state < 4; state++) {
            TypestateChecker x = Kit.with(IFIN, 0, state, ELSE, 0, 0, END, 0, 0, IF, 0, 0, DROP, 0, 0, END, 0, 0);
            for (int choices = 0; choices < 8; choices++) {
                x.run(choices, 9);
                due.is("localPerm(0) after IFIN and IF on " + choices, x.localPerm(0), choices % 2 == 0 ? 2 : 0);
            }
        }
    }

    /** Blocks of many lengths at many places, without an ELSE and, where it may stand, with one. */
    private static void eachBlock(int op, boolean enters) {
        int longestElse = op == LOOP ? -1 : 3;
        for (int before = 0; before <= 3; before++) {
            for (int body = 0; body <= 4; body++) {
                for (int other = -1; other <= longestElse; other++) oneBlock(op, enters, before, body, other);
            }
        }
    }

    /** The first statement of the block goes to the next one, or past the ELSE or the END; other -1 is no ELSE. */
    private static void oneBlock(int op, boolean enters, int before, int body, int other) {
        for (boolean last : new boolean[] {true, false}) {
            TypestateChecker x = Kit.with(Programs.repeat(before, DROP, 2, 0));
            x.add(op, 0, enters ? 0 : 1);
            fill(x, body);
            int end = other < 0 ? x.length() : x.length() + 1 + other;
            int past = x.length() + 1;
            if (other >= 0) {
                x.add(ELSE, 0, 0);
                fill(x, other);
            }
            x.add(END, 0, 0);
            if (!last) x.add(DROP, 2, 0);
            due.is("the END stands at", end, x.length() - (last ? 1 : 2));
            int choices = op == IFIN ? enters ? 0 : -1 : enters ? 1 : 0;
            x.run(choices, before + 1);
            due.is("machinePc() after " + op + " with " + body + " and " + other, x.machinePc(),
                enters ? before + 1 : past);
            due.is("stepsDone()", x.stepsDone(), before + 1);
        }
    }

    /** So many statements, among them, where there is room, a loop whose END is not the block's. */
    private static void fill(TypestateChecker x, int statements) {
        for (int i = 0; i < statements; i++) {
            boolean loop = statements >= 3 && i < 2;
            x.add(!loop ? DROP : i == 0 ? LOOP : END, 2, 0);
        }
    }

    private static void elseJumps() {
        for (int op : new int[] {IF, IFIN}) {
            for (int other = 0; other <= 4; other++) {
                for (boolean last : new boolean[] {true, false}) {
                    TypestateChecker x = Kit.with(DROP, 2, 0, op, 0, 0, ELSE, 0, 0);
                    fill(x, other);
                    x.add(END, 0, 0);
                    if (!last) x.add(DROP, 2, 0);
                    x.run(1, 3);
                    due.is("machinePc() after an ELSE of " + other, x.machinePc(), 3 + other + 1);
                    due.is("stepsDone()", x.stepsDone(), 3);
                    due.is("the END is reached from the ELSE part alone", x.stateSet(3 + other, 0), op == IF ? 1 : 0);
                }
            }
        }
    }

    private static void loopEnds() {
        for (int before = 0; before <= 3; before++) {
            for (int body = 0; body <= 4; body++) {
                TypestateChecker x = Kit.with(Programs.repeat(before, DROP, 2, 0));
                x.add(LOOP, 0, 0);
                for (int i = 0; i < body; i++) x.add(DROP, 2, 0);
                x.add(END, 0, 0);
                x.run(1, before + 1 + body);
                due.is("machinePc() at the END", x.machinePc(), before + 1 + body);
                x.run(1, before + 2 + body);
                due.is("machinePc() after the END of a loop", x.machinePc(), before);
            }
        }
        TypestateChecker inner = Kit.with(LOOP, 0, 0, LOOP, 0, 0, END, 0, 0, IF, 0, 0, END, 0, 0, END, 0, 0);
        int[] pcs = {0, 1, 2, 1, 3, 4, 5, 0, 1, 3, 5, 0, 6};
        for (int n = 0; n < pcs.length; n++) {
            // Outer, inner, inner's leaving, the IF, outer, inner's leaving, the IF passed by, outer's leaving.
            inner.run(0b00011011, n);
            due.is("machinePc() after " + n + " steps", inner.machinePc(), pcs[n]);
        }
    }

    private static void branchEnds() {
        for (int op : new int[] {IF, IFIN}) {
            for (int body = 0; body <= 3; body++) {
                for (boolean within : new boolean[] {true, false}) {
                    // Within a loop as well the END of the branch goes on by one, to the loop's own END.
                    TypestateChecker x = Kit.with(within ? LOOP : DROP, 2, 0, op, 0, 0);
                    for (int i = 0; i < body; i++) x.add(DROP, 2, 0);
                    x.add(END, 0, 0);
                    if (within) x.add(END, 0, 0);
                    x.run(-1, 2 + body);
                    due.is("machinePc() at the END", x.machinePc(), 2 + body);
                    x.run(-1, 3 + body);
                    due.is("machinePc() after the END of " + op, x.machinePc(), 3 + body);
                }
            }
        }
    }

    private static void hasEnded() {
        for (int length = 0; length <= 16; length++) {
            TypestateChecker x = Kit.with(Programs.repeat(length, DROP, 2, 0));
            for (int n : new int[] {length, length + 1, 4096}) {
                due.is("run(0, " + n + ") of " + length, x.run(0, n), TypestateChecker.RUN_DONE);
                due.is("machinePc()", x.machinePc(), length);
            }
            if (length > 0) due.is("one step before", x.run(0, length - 1), OUT);
            due.is("an end does not fault", x.check(), TypestateChecker.ACCEPTED);
        }
        // What stood behind the end before the program was cleared is not executed.
        TypestateChecker x = Kit.with(CALL, 2, 0, CALL, 2, 0);
        Kit.program(x, DROP, 2, 0);
        due.is("run of the new program", x.run(0, 9), TypestateChecker.RUN_DONE);
        due.is("check() of the new program", x.check(), TypestateChecker.ACCEPTED);
    }

    private static void zeroSteps() {
        int[][][] lists = {Programs.ACCEPTED, Programs.REJECTED};
        int[] start = {4, 16, 1};
        for (int[][] list : lists) {
            for (int[] statements : list) {
                TypestateChecker x = Kit.file(statements);
                for (int obj = 0; obj < 2; obj++) due.is("stateSet(0, " + obj + ") & 1", x.stateSet(0, obj) & 1, 1);
                for (int l = 0; l < 3; l++)
                    due.is("localSet(0, " + l + ")", x.localSet(0, l) & start[l], start[l]);
            }
        }
        TypestateChecker x = Kit.with(CALL, 2, 0);
        due.is("a fault in zero steps", x.faultPc(), 0);
        due.is("the empty program has ended in zero steps", new TypestateChecker(8).stateSet(0, 1), 1);
    }

    private static void reached() {
        // Freely chosen: no two decisions hang together, not even those 32 apart.
        TypestateChecker free = Kit.with(IF, 0, 0, DROP, 0, 0, END, 0, 0, IF, 0, 0, DROP, 1, 0, END, 0, 0, IF, 0, 0,
            DROP, 0, 0, DROP, 1, 0, END, 0, 0);
        due.is("localSet(6, 0)", free.localSet(6, 0), 5);
        due.is("localSet(6, 1)", free.localSet(6, 1), 17);
        due.is("localSet(10, 0)", free.localSet(10, 0), 5);
        // No fault on the way: what would come behind a fault is not reached.
        TypestateChecker fault = Kit.file(IF, 0, 0, CALL, 2, 0, CALL, 0, 0, END, 0, 0, DROP, 2, 0);
        due.is("stateSet(2, 0) behind a fault", fault.stateSet(2, 0), 0);
        due.is("stateSet(5, 0) beside the fault", fault.stateSet(5, 0), 1);
        // No step limit: object 1 comes to state 3 only late, and the fault behind it lies 58 steps away.
        TypestateChecker far = Far.fault();
        due.is("stateSet(0, 1)", far.stateSet(0, 1), 9);
        due.is("localSet(6, 1)", far.localSet(6, 1), 24);
        due.is("check()", far.check(), TypestateChecker.REJECTED);
        due.is("stateSet(5, 0) with 450 configurations before", Far.state().stateSet(5, 0), 7);
        due.is("localSet(6, 2) with 376 configurations before", Far.local().localSet(6, 2), 11);
        everyRunIsReached();
    }

    /** Whatever a run comes to is in the sets of its pc. */
    private static void everyRunIsReached() {
        int[][][] lists = {Programs.ACCEPTED, Programs.REJECTED};
        for (int[][] list : lists) {
            for (int[] statements : list) {
                TypestateChecker x = Kit.file(statements);
                for (int choices : new int[] {0, 1, 3, 6, 0x55555555, 0x6db6db6d, -1}) {
                    for (int n = 0; n < 30; n++) {
                        x.run(choices, n);
                        int pc = x.machinePc();
                        for (int obj = 0; obj < 2; obj++)
                            due.is("the state is in the set", x.stateSet(pc, obj) >> x.objState(obj) & 1, 1);
                        for (int l = 0; l < 3; l++) {
                            int bit = x.localObject(l) < 0 ? 0 : 2 * x.localObject(l) + x.localPerm(l);
                            due.is("the value is in the set", x.localSet(pc, l) >> bit & 1, 1);
                        }
                    }
                }
            }
        }
    }

    private static void reachedFaults() {
        for (int length = 1; length <= 16; length++) {
            TypestateChecker x = Kit.with(Programs.repeat(length - 1, DROP, 2, 0));
            due.is("no fault at the end of " + (length - 1), x.check(), TypestateChecker.ACCEPTED);
            x.add(CALL, 2, 0);
            due.is("a fault at the last of " + length, x.check(), TypestateChecker.REJECTED);
            due.is("faultPc()", x.faultPc(), length - 1);
        }
        // A statement that would fault faults nowhere if nothing comes to it.
        due.is("behind a state never reached", Kit.with(IFIN, 1, 2, CALL, 2, 0, END, 0, 0).check(),
            TypestateChecker.ACCEPTED);
        // One configuration of several is enough.
        due.is("on one of two ways", Kit.with(IF, 0, 0, DROP, 0, 0, END, 0, 0, SHARE, 2, 0).check(),
            TypestateChecker.REJECTED);
    }
}

import java.util.ArrayList;
import java.util.HashSet;
import java.util.List;
import java.util.Set;

/** The section 'What it is', sentence by sentence, with the public constants as the answers show them. */
public final class DocumentWhatItIsTest {
    private static final Section section = new Section("DocumentWhatItIsTest", "## What it is", "## ");
    private static final Due due = section.due;
    private static final int CALL = Kit.CALL, SHARE = Kit.SHARE, MERGE = Kit.MERGE, DROP = Kit.DROP, IF = Kit.IF,
        IFIN = Kit.IFIN, ELSE = Kit.ELSE, LOOP = Kit.LOOP, END = Kit.END;
    private static final int DONE = 20, OUT = 21;

    /** Every kind of statement, under Kit.file's protocol; object 0 is closed or open when the IFIN is reached. */
    private static final int[] ALL_KINDS = {IF, 0, 0, CALL, 0, 0, END, 0, 0, IFIN, 0, 1, SHARE, 2, 0, LOOP, 0, 0,
        CALL, 2, 1, END, 0, 0, MERGE, 0, 2, ELSE, 0, 0, DROP, 1, 0, END, 0, 0};

    public static void main(String[] args) {
        parts();
        checker();
        section.sentence("A machine runs the program for one given sequence of decisions under a step budget,",
            DocumentWhatItIsTest::decisionsAndBudget);
        section.sentence("monitoring each object's true state", DocumentWhatItIsTest::trueState);
        section.sentence("and stopping at the first fault.", DocumentWhatItIsTest::firstFault);
        constants();
        section.end();
    }

    private static void parts() {
        section.sentence("TypestateChecker holds a small typestate protocol with fractional permissions and a program over "
            + "it.", DocumentWhatItIsTest::holds);
        section.sentence("There are two classes (0 and 1), each with states 0..3 and methods 0..3;",
            DocumentWhatItIsTest::classes);
        section.sentence("two objects (0 and 1), each of a class;", DocumentWhatItIsTest::objects);
        section.sentence("and three locals (0, 1, 2) that carry references to the objects with a HALF or FULL permission.",
            DocumentWhatItIsTest::locals);
        section.sentence("A program of at most CAP statements", DocumentWhatItIsTest::atMostCap);
        section.sentence("calls methods through locals, shares, merges and drops references,",
            DocumentWhatItIsTest::references);
        section.sentence("and branches with IF, IFIN and LOOP blocks.", DocumentWhatItIsTest::blocks);
    }

    private static void checker() {
        section.sentence("A checker decides, over ALL branch decisions, whether any protocol fault can occur,",
            () -> overAll(w -> w.x.check() == (w.faultPc < 0 ? 10 : 11), "check()"));
        section.sentence("what the least index of a statement that can fault is,",
            () -> overAll(w -> w.x.faultPc() == w.faultPc, "faultPc()"));
        section.sentence("what the least fault code there is,",
            () -> overAll(w -> w.x.faultKind() == w.faultKind, "faultKind()"));
        section.sentence("and which object states and local values are possible at every program point.",
            () -> overAll(Ways::setsAreSeen, "stateSet and localSet"));
    }

    private static void constants() {
        section.sentence("Public constants:", () -> due.is("OP_CALL is public", TypestateChecker.OP_CALL, 1));
        section.sentence("Statement kinds: `OP_CALL = 1`, `OP_SHARE = 2`, `OP_MERGE = 3`, `OP_DROP = 4`, `OP_IF = 5`, "
            + "`OP_IFIN = 6`, `OP_ELSE = 7`, `OP_LOOP = 8`, `OP_END = 9`.", DocumentWhatItIsTest::kinds);
        section.sentence("Permissions: `HALF = 1`, `FULL = 2`.", DocumentWhatItIsTest::permissions);
        section.sentence("Fault codes: `F_NULL = 1`, `F_UNDECLARED = 2`, `F_STATE = 3`, `F_PERM = 4`, `F_OCCUPIED = 5`, "
            + "`F_SPLIT = 6`, `F_MERGE = 7`.", DocumentWhatItIsTest::faultCodes);
        section.sentence("Checker answers: `ACCEPTED = 10`, `REJECTED = 11`, `MALFORMED = 12`.",
            DocumentWhatItIsTest::checkerAnswers);
        section.sentence("Run answers: `RUN_DONE = 20`, `RUN_OUT = 21`", DocumentWhatItIsTest::runAnswers);
        section.sentence("(a run may also answer `MALFORMED` or a fault code).", DocumentWhatItIsTest::otherRunAnswers);
    }

    /** One object holds the protocol and the program, another one holds its own, and two halves are a whole. */
    private static void holds() {
        TypestateChecker x = Kit.file(CALL, 0, 0), y = new TypestateChecker(8);
        due.is("the program of the one", x.length(), 1);
        due.is("its protocol lets it pass", x.run(0, 9), DONE);
        due.is("the program of the other", y.length(), 0);
        due.is("the machine of the other", Kit.machine(y), Kit.INITIAL_MACHINE);
        y.add(CALL, 0, 0);
        due.is("the protocol of the other", y.check(), 11);
        y.clear();
        y.setClass(0, 1);
        due.is("the program of the one after the other's clear", x.length(), 1);
        due.is("its answer after the other's setClass", x.check(), 10);
        TypestateChecker halves = Kit.file(SHARE, 2, 0, MERGE, 2, 0);
        halves.run(0, 1);
        due.is("half and half", halves.localPerm(0) + halves.localPerm(2), TypestateChecker.FULL);
        halves.run(0, 2);
        due.is("the whole again", halves.localPerm(2), TypestateChecker.FULL);
    }

    private static void classes() {
        int taken = 0;
        for (int cls = -1; cls <= 2; cls++)
            for (int m = -1; m <= 4; m++)
                for (int req = -1; req <= 4; req++)
                    for (int res = -1; res <= 4; res++) {
                        boolean there = Kit.in(0, cls, 1) && Kit.in(0, m, 3) && Kit.in(0, req, 3) && Kit.in(0, res, 3);
                        due.is("declare(" + cls + ", " + m + ", " + req + ", " + res + ")",
                            new TypestateChecker(8).declare(cls, m, req, res), there);
                        if (there) taken++;
                    }
        due.is("classes, methods and states together", taken, 2 * 4 * 4 * 4);
    }

    private static void objects() {
        for (int obj = -2; obj <= 3; obj++) {
            boolean there = obj == 0 || obj == 1;
            TypestateChecker x = new TypestateChecker(8);
            due.is("objState(" + obj + ")", x.objState(obj), there ? 0 : -1);
            due.is("stateSet(0, " + obj + ")", x.stateSet(0, obj), there ? 1 : 0);
            for (int cls = -1; cls <= 2; cls++)
                due.is("setClass(" + obj + ", " + cls + ")", x.setClass(obj, cls), there && Kit.in(0, cls, 1));
        }
        for (int classes = 0; classes < 4; classes++) {
            for (int obj = 0; obj < 2; obj++) {
                TypestateChecker x = new TypestateChecker(8);
                x.setClass(0, classes & 1);
                x.setClass(1, classes >> 1);
                due.is("the class of object " + obj, Whole.classOf(x, obj), classes >> obj & 1);
            }
        }
    }

    /** Each local comes to hold each object with each permission, and to be null; other locals there are none. */
    private static void locals() {
        List<Set<String>> seen = List.of(new HashSet<>(), new HashSet<>(), new HashSet<>());
        for (Setups.Setup s : Setups.ALL) {
            TypestateChecker x = Setups.make(s);
            due.is("the way there", x.run(0, 99), DONE);
            for (int l = 0; l < 3; l++) {
                String value = x.localObject(l) + ":" + x.localPerm(l);
                due.is("local " + l, value, s.objects()[l] + ":" + s.perms()[l]);
                seen.get(l).add(value);
            }
        }
        Set<String> values = Set.of("-1:0", "0:1", "0:2", "1:1", "1:2");
        for (int l = 0; l < 3; l++) due.is("the values of local " + l, seen.get(l).equals(values), true);
        for (int l = -2; l <= 4; l++) {
            boolean there = Kit.in(0, l, 2);
            TypestateChecker x = new TypestateChecker(8);
            due.is("localPerm(" + l + ")", x.localPerm(l), there ? l == 2 ? 0 : 2 : -1);
            due.is("localObject(" + l + ")", x.localObject(l), there && l != 2 ? l : -1);
            due.is("localSet(0, " + l + ")", x.localSet(0, l), there ? new int[] {4, 16, 1}[l] : 0);
            due.is("add(DROP, " + l + ", 0)", x.add(DROP, l, 0), there ? 0 : -1);
        }
    }

    private static void atMostCap() {
        for (int cap = 8; cap <= 16; cap++) {
            TypestateChecker x = new TypestateChecker(cap);
            for (int i = 0; i < cap; i++) due.is("statement " + i + " of " + cap, x.add(DROP, 0, 0), i);
            for (int op = 1; op <= 9; op++) due.is("one more of kind " + op, x.add(op, 0, 1), -1);
            due.is("length()", x.length(), cap);
            due.is("the full program runs", x.run(0, 99), DONE);
            due.is("all of its statements", x.stepsDone(), cap);
        }
    }

    private static void references() {
        TypestateChecker x = Kit.file(CALL, 0, 0, SHARE, 2, 0, CALL, 2, 1, MERGE, 0, 2, CALL, 0, 2, DROP, 0, 0);
        due.is("check()", x.check(), 10);
        String[] after = {"0 0 locals 0:2 1:2 -1:0", "1 0 locals 0:2 1:2 -1:0", "1 0 locals 0:1 1:2 0:1",
            "1 0 locals 0:1 1:2 0:1", "1 0 locals 0:2 1:2 -1:0", "0 0 locals 0:2 1:2 -1:0", "0 0 locals -1:0 1:2 -1:0"};
        for (int n = 0; n < after.length; n++) {
            due.is("run(0, " + n + ")", x.run(0, n), n == 6 ? DONE : OUT);
            due.is("the machine", Kit.machine(x), "pc " + n + " steps " + n + " states " + after[n]);
        }
    }

    private static void blocks() {
        TypestateChecker x = Kit.file(ALL_KINDS);
        due.is("check()", x.check(), 10);
        due.is("decision 0", x.run(0, 99), DONE);
        due.is("then the ELSE part drops local 1", Kit.machine(x), "pc 12 steps 4 states 0 0 locals 0:2 -1:0 -1:0");
        for (int rounds = 0; rounds < 5; rounds++) {
            // A 1 for the IF, a 1 for each round of the LOOP, and noughts.
            due.is("decision 1 and " + rounds + " rounds", x.run((2 << rounds) - 1, 99), DONE);
            due.is("then the loop calls through local 2", Kit.machine(x),
                "pc 12 steps " + (8 + 3 * rounds) + " states 1 0 locals 0:2 1:2 -1:0");
        }
    }

    private interface Question {
        boolean holds(Ways w);
    }

    /** What the machine shows of a program on all ways through it, up to so many decisions and steps. */
    private static final class Ways {
        final TypestateChecker x;
        int faultPc = -1, faultKind = -1;
        private final int[][] states, locals;

        Ways(TypestateChecker x, int decisions, int steps) {
            this.x = x;
            states = new int[x.length() + 1][2];
            locals = new int[x.length() + 1][3];
            for (int choices = 0; choices < 1 << decisions; choices++) {
                int answer = OUT;
                for (int n = 0; n <= steps && answer == OUT; n++) {
                    answer = x.run(choices, n);
                    see();
                }
                if (answer < 10) fault(x.machinePc(), answer);
            }
        }

        private void see() {
            int pc = x.machinePc();
            for (int obj = 0; obj < 2; obj++) states[pc][obj] |= 1 << x.objState(obj);
            for (int l = 0; l < 3; l++) {
                int object = x.localObject(l);
                locals[pc][l] |= object < 0 ? 1 : 1 << 2 * object + x.localPerm(l);
            }
        }

        private void fault(int pc, int code) {
            if (faultPc >= 0 && (pc > faultPc || pc == faultPc && code >= faultKind)) return;
            faultPc = pc;
            faultKind = code;
        }

        boolean setsAreSeen() {
            boolean same = true;
            for (int pc = 0; pc < states.length; pc++) {
                for (int obj = 0; obj < 2; obj++) same &= x.stateSet(pc, obj) == states[pc][obj];
                for (int l = 0; l < 3; l++) same &= x.localSet(pc, l) == locals[pc][l];
            }
            return same;
        }
    }

    private static final List<Ways> WAYS = new ArrayList<>();

    private static void overAll(Question question, String what) {
        if (WAYS.isEmpty()) goAllWays();
        for (Ways w : WAYS)
            due.is(what + " is what all runs show of " + Kit.checker(w.x), question.holds(w), true);
    }

    private static void goAllWays() {
        for (int[] statements : Programs.ACCEPTED) WAYS.add(new Ways(Kit.file(statements), 8, 60));
        for (int[] statements : Programs.REJECTED) WAYS.add(new Ways(Kit.file(statements), 8, 60));
        WAYS.add(new Ways(Kit.file(ALL_KINDS), 8, 60));
        WAYS.add(new Ways(Situations.withinARun(), 8, 60));
        WAYS.add(new Ways(Situations.fullAfterAFault(), 8, 60));
        WAYS.add(new Ways(Situations.sixteen(), 8, 60));
        WAYS.add(new Ways(Situations.otherOperands(), 8, 60));
        // Two faults at one index, and one that comes later at a lesser index.
        WAYS.add(new Ways(Kit.file(IF, 0, 0, DROP, 0, 0, END, 0, 0, CALL, 0, 1), 8, 60));
        WAYS.add(new Ways(Kit.file(LOOP, 0, 0, CALL, 1, 0, IF, 0, 0, CALL, 0, 1, END, 0, 0, END, 0, 0), 8, 60));
        // The nearest fault lies twelve decisions and 58 steps away.
        WAYS.add(new Ways(Far.fault(), 12, 80));
    }

    private static void decisionsAndBudget() {
        // Each of the sixteen ways through four decisions leaves its own trace in what is dropped and in the state.
        TypestateChecker x = Kit.file(IF, 0, 0, CALL, 0, 0, END, 0, 0, IF, 0, 0, CALL, 1, 0, END, 0, 0, IF, 0, 0,
            DROP, 0, 0, END, 0, 0, IF, 0, 0, DROP, 1, 0, END, 0, 0);
        for (int choices = 0; choices < 16; choices++) {
            int ones = Integer.bitCount(choices);
            due.is("run(" + choices + ", 99)", x.run(choices, 99), DONE);
            due.is("what it leaves", Kit.machine(x), "pc 12 steps " + (4 + 2 * ones) + " states " + (choices & 1) + " "
                + (choices >> 1 & 1) + " locals " + ((choices & 4) != 0 ? "-1:0" : "0:2") + " "
                + ((choices & 8) != 0 ? "-1:0" : "1:2") + " -1:0");
            for (int n = 0; n < 15; n++) {
                boolean enough = n >= 4 + 2 * ones;
                due.is("run(" + choices + ", " + n + ")", x.run(choices, n), enough ? DONE : OUT);
                due.is("stepsDone()", x.stepsDone(), enough ? 4 + 2 * ones : n);
            }
        }
    }

    /** The state is told whatever local it changed through, and also when no local holds the object any more. */
    private static void trueState() {
        TypestateChecker x = Kit.with(CALL, 0, 0, SHARE, 2, 0, MERGE, 2, 0, CALL, 2, 1, DROP, 2, 0, CALL, 1, 2, DROP, 1, 0);
        x.declare(0, 0, 0, 2);
        x.declare(0, 1, 2, 3);
        x.declare(0, 2, 0, 1);
        int[][] states = {{0, 0}, {2, 0}, {2, 0}, {2, 0}, {3, 0}, {3, 0}, {3, 1}, {3, 1}};
        for (int n = 0; n < states.length; n++) {
            x.run(0, n);
            for (int obj = 0; obj < 2; obj++) {
                due.is("objState(" + obj + ") after " + n + " steps", x.objState(obj), states[n][obj]);
                due.is("stateSet(" + n + ", " + obj + ")", x.stateSet(n, obj), 1 << states[n][obj]);
            }
        }
    }

    private static void firstFault() {
        // Every statement would fault; the first one reached tells.
        TypestateChecker x = Kit.file(IF, 0, 0, CALL, 0, 1, ELSE, 0, 0, MERGE, 0, 1, END, 0, 0, CALL, 2, 0);
        due.is("run(1, 99)", x.run(1, 99), 3);
        due.is("machinePc()", x.machinePc(), 1);
        due.is("stepsDone()", x.stepsDone(), 1);
        due.is("run(0, 99)", x.run(0, 99), 7);
        due.is("machinePc()", x.machinePc(), 3);
        due.is("stepsDone()", x.stepsDone(), 1);
        Kit.program(x, CALL, 0, 0, CALL, 0, 0, DROP, 0, 0, CALL, 2, 0);
        due.is("run(0, 99)", x.run(0, 99), 3);
        due.is("the machine stands before the fault", Kit.machine(x), "pc 1 steps 1 states 1 0 locals 0:2 1:2 -1:0");
    }

    /** Each number does what its name says. */
    private static void kinds() {
        due.is("CALL", kind(0, 1, 0, 0), "20 pc 1 steps 1 states 1 0 locals 0:2 1:2 -1:0");
        due.is("SHARE", kind(0, 2, 2, 0), "20 pc 1 steps 1 states 0 0 locals 0:1 1:2 0:1");
        due.is("MERGE", kind(0, 2, 2, 0, 3, 2, 0), "20 pc 2 steps 2 states 0 0 locals -1:0 1:2 0:2");
        due.is("DROP", kind(0, 4, 1, 0), "20 pc 1 steps 1 states 0 0 locals 0:2 -1:0 -1:0");
        due.is("IF on 1", kind(1, 5, 0, 1, 4, 0, 0, 9, 0, 0), "20 pc 3 steps 3 states 0 0 locals -1:0 1:2 -1:0");
        due.is("IF on 0", kind(0, 5, 0, 1, 4, 0, 0, 9, 0, 0), "20 pc 3 steps 1 states 0 0 locals 0:2 1:2 -1:0");
        due.is("IFIN on another state", kind(1, 6, 0, 1, 4, 0, 0, 9, 0, 0), "20 pc 3 steps 1 states 0 0 locals 0:2 1:2 -1:0");
        due.is("IFIN on the state", kind(0, 6, 0, 0, 4, 0, 0, 9, 0, 0), "20 pc 3 steps 3 states 0 0 locals -1:0 1:2 -1:0");
        due.is("ELSE", kind(0, 5, 0, 0, 4, 0, 0, 7, 0, 0, 4, 1, 0, 9, 0, 0),
            "20 pc 5 steps 3 states 0 0 locals 0:2 -1:0 -1:0");
        due.is("LOOP and END", kind(3, 8, 0, 0, 9, 0, 0), "20 pc 2 steps 5 states 0 0 locals 0:2 1:2 -1:0");
        for (int op = -1; op <= 11; op++)
            due.is("add(" + op + ", 0, 1)", new TypestateChecker(8).add(op, 0, 1), Kit.in(1, op, 9) ? 0 : -1);
        int[] named = {TypestateChecker.OP_CALL, TypestateChecker.OP_SHARE, TypestateChecker.OP_MERGE,
            TypestateChecker.OP_DROP, TypestateChecker.OP_IF, TypestateChecker.OP_IFIN, TypestateChecker.OP_ELSE,
            TypestateChecker.OP_LOOP, TypestateChecker.OP_END};
        for (int i = 0; i < 9; i++) due.is("statement kind " + (i + 1), named[i], i + 1);
    }

    private static String kind(int choices, int... statements) {
        TypestateChecker x = Kit.file(statements);
        return x.run(choices, 99) + " " + Kit.machine(x);
    }

    private static void permissions() {
        TypestateChecker x = Kit.with(SHARE, 2, 0);
        due.is("localPerm(0) of a new object", x.localPerm(0), 2);
        x.run(0, 1);
        due.is("localPerm(0) after a share", x.localPerm(0), 1);
        due.is("localPerm(2) after a share", x.localPerm(2), 1);
        due.is("HALF", TypestateChecker.HALF, 1);
        due.is("FULL", TypestateChecker.FULL, 2);
    }

    private static final int[][] FAULTS = {{CALL, 2, 0}, {CALL, 0, 3}, {CALL, 0, 1}, {SHARE, 2, 0, CALL, 2, 0},
        {SHARE, 1, 0}, {SHARE, 2, 0, DROP, 1, 0, SHARE, 1, 0}, {MERGE, 0, 1}};

    private static void faultCodes() {
        int[] named = {TypestateChecker.F_NULL, TypestateChecker.F_UNDECLARED, TypestateChecker.F_STATE,
            TypestateChecker.F_PERM, TypestateChecker.F_OCCUPIED, TypestateChecker.F_SPLIT, TypestateChecker.F_MERGE};
        for (int i = 0; i < 7; i++) {
            due.is("fault code " + (i + 1), named[i], i + 1);
            due.is("faultKind() " + (i + 1), Kit.file(FAULTS[i]).faultKind(), i + 1);
        }
    }

    private static void checkerAnswers() {
        due.is("ACCEPTED", TypestateChecker.ACCEPTED, 10);
        due.is("REJECTED", TypestateChecker.REJECTED, 11);
        due.is("MALFORMED", TypestateChecker.MALFORMED, 12);
        due.is("check() of nothing", new TypestateChecker(8).check(), 10);
        due.is("check() of a fault", Kit.with(CALL, 0, 0).check(), 11);
        due.is("check() of an END", Kit.with(END, 0, 0).check(), 12);
    }

    private static void runAnswers() {
        due.is("RUN_DONE", TypestateChecker.RUN_DONE, 20);
        due.is("RUN_OUT", TypestateChecker.RUN_OUT, 21);
        due.is("run(0, 1) of a DROP", Kit.with(DROP, 0, 0).run(0, 1), 20);
        due.is("run(0, 0) of a DROP", Kit.with(DROP, 0, 0).run(0, 0), 21);
    }

    private static void otherRunAnswers() {
        due.is("run of an END", Kit.with(END, 0, 0).run(0, 9), 12);
        for (int i = 0; i < 7; i++) due.is("run of fault " + (i + 1), Kit.file(FAULTS[i]).run(0, 9), i + 1);
    }
}

import java.util.function.Supplier;

/** Promise 5, sentence by sentence: clearing what is empty, full, malformed, within a run or after a fault. */
public final class Boundary05ClearTest {
    private static final Section section = new Section("Boundary05ClearTest", "## Promise 5: Clearing", "## ");
    private static final Due due = section.due;

    public static void main(String[] args) {
        section.sentence("`clear()` empties the program, so `length()` becomes 0.", Boundary05ClearTest::empties);
        section.sentence("The protocol (all declarations) and the classes of both objects stay.", Boundary05ClearTest::keeps);
        section.sentence("The machine returns to the initial configuration with `machinePc()` 0 and `stepsDone()` 0.",
            Boundary05ClearTest::machine);
        section.end();
    }

    private static void empties() {
        for (Situations.Situation s : Situations.ALL) isEmpty(s.name(), s.make().get());
        for (int[] statements : Programs.MALFORMED) isEmpty("a malformed program", Kit.file(statements));
        for (int[] statements : Programs.REJECTED) isEmpty("a rejected program", Kit.file(statements));
        for (int[] statements : Programs.ACCEPTED) isEmpty("an accepted program", Kit.file(statements));
        for (int cap = 8; cap <= 16; cap++) refill(cap);
    }

    private static void isEmpty(String what, TypestateChecker x) {
        for (int times = 0; times < 2; times++) {
            x.clear();
            due.is("length() of " + what + " when cleared", x.length(), 0);
            due.is("the checker on " + what + " when cleared", Kit.checker(x), "0 10 -1 -1 |0 s1 s1 l4 l16 l1");
            due.is("stateSet(1, 0) of " + what + " when cleared", x.stateSet(1, 0), 0);
            due.is("run on " + what + " when cleared", x.run(-1, 0), TypestateChecker.RUN_DONE);
        }
        due.is("the first index in " + what + " when cleared", x.add(Kit.IF, 0, 0), 0);
    }

    /** What stood in the places before, blocks above all, does not shine through what is put there now. */
    private static void refill(int cap) {
        TypestateChecker x = new TypestateChecker(cap);
        for (int i = 0; i < cap; i++) x.add(i < cap / 2 ? Kit.IF : Kit.ELSE, 0, 0);
        x.check();
        x.clear();
        for (int i = 0; i < cap; i++) due.is("cap " + cap + ", refilled", x.add(i % 2 == 0 ? Kit.IF : Kit.END, 0, 0), i);
        due.is("cap " + cap + ", one too many", x.add(Kit.END, 0, 0), -1);
        boolean even = cap % 2 == 0;
        due.is("cap " + cap + ", check()", x.check(), even ? TypestateChecker.ACCEPTED : TypestateChecker.MALFORMED);
        x.run(0, 99);
        due.is("cap " + cap + ", stepsDone()", x.stepsDone(), even ? cap / 2 : 0);
    }

    private static void keeps() {
        for (Situations.Situation s : Situations.ALL) {
            Supplier<TypestateChecker> cleared = Situations.after(s.make(), TypestateChecker::clear);
            due.is("the protocol of " + s.name() + " when cleared", Whole.protocol(cleared), Whole.protocol(s.make()));
            due.is("the capacity of " + s.name() + " when cleared", Whole.capacity(cleared.get()),
                Whole.capacity(s.make().get()));
        }
        for (int classes = 0; classes < 4; classes++) keepsAll(classes & 1, classes >> 1);
        clearedAndWrittenAgain();
    }

    private static void keepsAll(int c0, int c1) {
        Supplier<TypestateChecker> make = () -> {
            TypestateChecker x = new TypestateChecker(8);
            x.setClass(0, c0);
            x.setClass(1, c1);
            for (int i = 0; i < 8; i++) x.declare(i / 4, i % 4, (i + 1) % 4, (3 * i + i / 4) % 4);
            x.add(Kit.LOOP, 0, 0);
            x.clear();
            x.clear();
            return x;
        };
        due.is("eight declarations when cleared", Whole.protocol(make), "classes " + c0 + " " + c1
            + " declarations 1>0 2>3 3>2 0>1 1>1 2>0 3>3 0>2");
    }

    private static void clearedAndWrittenAgain() {
        for (int classes = 0; classes < 4; classes++) {
            int c0 = classes & 1, c1 = classes >> 1;
            TypestateChecker x = Whole.allCalled(c0, c1);
            x.clear();
            for (int i = 0; i < 8; i++) x.add(Kit.CALL, i / 4, (i < 4 ? c0 : c1) == 0 ? i % 4 : (8 - i) % 4);
            due.is("the checker on the same program after clear", Kit.checker(x), Whole.allAccepted(c0, c1));
        }
    }

    private static void machine() {
        for (Situations.Situation s : Situations.ALL) {
            TypestateChecker x = s.make().get();
            x.clear();
            due.is("the machine of " + s.name() + " when cleared", Kit.machine(x), Kit.INITIAL_MACHINE);
        }
        for (int[] statements : Programs.REJECTED) {
            TypestateChecker x = Kit.file(statements);
            x.run(1, 99);
            x.clear();
            due.is("machinePc()", x.machinePc(), 0);
            due.is("stepsDone()", x.stepsDone(), 0);
            due.is("the machine after a fault when cleared", Kit.machine(x), Kit.INITIAL_MACHINE);
        }
        TypestateChecker longest = Kit.with(Kit.LOOP, 0, 0, Kit.DROP, 0, 0, Kit.DROP, 1, 0, Kit.END, 0, 0);
        longest.run(-1, Integer.MAX_VALUE);
        due.is("stepsDone() before", longest.stepsDone(), 4096);
        longest.clear();
        due.is("the machine after the longest run when cleared", Kit.machine(longest), Kit.INITIAL_MACHINE);
    }
}

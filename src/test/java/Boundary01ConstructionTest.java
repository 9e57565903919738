/** Promise 1, sentence by sentence: the edges of the capacity, and all that a new object holds. */
public final class Boundary01ConstructionTest {
    private static final Section section =
        new Section("Boundary01ConstructionTest", "## Promise 1: Construction", "## ");
    private static final Due due = section.due;
    private static final int[] GIVEN = {Integer.MIN_VALUE, -1, 0, 7, 8, 9, 15, 16, 17, Integer.MAX_VALUE};

    public static void main(String[] args) {
        section.sentence("`TypestateChecker(int capacity)` sets CAP to capacity clamped into 8..16:",
            Boundary01ConstructionTest::clamped);
        section.sentence("any value below 8 becomes 8,", Boundary01ConstructionTest::below);
        section.sentence("any value above 16 becomes 16,", Boundary01ConstructionTest::above);
        section.sentence("values in 8..16 are kept.", Boundary01ConstructionTest::within);
        section.sentence("CAP never changes afterwards.", Boundary01ConstructionTest::neverChanges);
        section.sentence("At the start: the program is empty (`length()` is 0),", Boundary01ConstructionTest::empty);
        section.sentence("no method of either class is declared,", Boundary01ConstructionTest::undeclared);
        section.sentence("both objects are of class 0,", Boundary01ConstructionTest::classes);
        section.sentence("and the machine is in the initial configuration with `machinePc()` 0 and `stepsDone()` 0.",
            Boundary01ConstructionTest::machine);
        section.end();
    }

    private static void capacity(int given, int want) {
        due.is("the capacity of TypestateChecker(" + given + ")", Whole.capacity(new TypestateChecker(given)), want);
    }

    private static void clamped() {
        for (int given = -40; given <= 60; given++) capacity(given, given < 8 ? 8 : given > 16 ? 16 : given);
    }

    private static void below() {
        for (int given : Kit.outside(8, 16)) if (given < 8) capacity(given, 8);
        capacity(7, 8);
        capacity(8, 8);
    }

    private static void above() {
        for (int given : Kit.outside(8, 16)) if (given > 16) capacity(given, 16);
        capacity(16, 16);
        capacity(17, 16);
    }

    private static void within() {
        for (int given = 8; given <= 16; given++) capacity(given, given);
    }

    private static void neverChanges() {
        for (int cap = 8; cap <= 16; cap++) {
            TypestateChecker x = new TypestateChecker(cap);
            TypestateChecker other = new TypestateChecker(24 - cap);
            for (int op = 1; op <= 9; op++) {
                x.clear();
                for (int i = 0; i < cap; i++)
                    due.is("cap " + cap + ", add(" + op + ", 0, 1)", x.add(op, 0, 1), i);
                for (int i = 0; i < 3; i++)
                    due.is("cap " + cap + ", add(" + op + ", 0, 1) when full", x.add(op, 0, 1), -1);
                use(x);
                use(other);
                due.is("cap " + cap + ", add when full and used", x.add(op, 0, 1), -1);
                due.is("cap " + cap + ", length()", x.length(), cap);
            }
        }
    }

    private static void use(TypestateChecker x) {
        x.add(0, 99, 99);
        x.declare(0, 0, 0, 0);
        x.declare(17, 17, 17, 17);
        x.setClass(0, 1);
        x.setClass(99, 99);
        x.check();
        x.faultPc();
        x.faultKind();
        x.stateSet(17, 0);
        x.localSet(17, 0);
        x.run(-1, 5000);
    }

    private static void empty() {
        for (int given : GIVEN) {
            TypestateChecker x = new TypestateChecker(given);
            due.is("length() of TypestateChecker(" + given + ")", x.length(), 0);
            due.is("the checker of TypestateChecker(" + given + ")", Kit.checker(x), "0 10 -1 -1 |0 s1 s1 l4 l16 l1");
            due.is("the first index", x.add(Kit.END, 0, 0), 0);
        }
    }

    private static void undeclared() {
        for (int cls = 0; cls < 2; cls++) {
            for (int m = 0; m < 4; m++) {
                due.is("method " + m + " of class " + cls,
                    Whole.declaration(() -> new TypestateChecker(8), cls, m), "none");
                TypestateChecker x = Kit.with(Kit.CALL, 0, m);
                x.setClass(0, cls);
                due.is("calling method " + m + " of class " + cls, x.run(0, 1), TypestateChecker.F_UNDECLARED);
            }
        }
    }

    private static void classes() {
        for (int given : GIVEN)
            for (int obj = 0; obj < 2; obj++)
                due.is("the class of object " + obj, Whole.classOf(new TypestateChecker(given), obj), 0);
    }

    private static void machine() {
        for (int given : GIVEN) {
            // What is done to another object before must not show in a new one.
            Situations.fullAfterAFault();
            TypestateChecker x = new TypestateChecker(given);
            due.is("machinePc()", x.machinePc(), 0);
            due.is("stepsDone()", x.stepsDone(), 0);
            due.is("the machine of TypestateChecker(" + given + ")", Kit.machine(x), Kit.INITIAL_MACHINE);
        }
    }
}

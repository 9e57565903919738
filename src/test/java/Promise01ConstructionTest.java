/** Promise 1: the capacity is clamped into 8..16, and how a new object stands. */
public final class Promise01ConstructionTest {
    private static final Due due = new Due("Promise01ConstructionTest");

    public static void main(String[] args) {
        capacity(Integer.MIN_VALUE, 8);
        capacity(-1, 8);
        capacity(0, 8);
        capacity(7, 8);
        for (int c = 8; c <= 16; c++) capacity(c, c);
        capacity(17, 16);
        capacity(1000, 16);
        capacity(Integer.MAX_VALUE, 16);
        capacityStays();
        start();
        due.end();
    }

    private static void capacity(int given, int cap) {
        TypestateChecker x = new TypestateChecker(given);
        for (int i = 0; i < cap; i++) due.is("capacity " + given + ", add", x.add(Kit.DROP, 0, 0), i);
        due.is("capacity " + given + ", add when full", x.add(Kit.DROP, 0, 0), -1);
        due.is("capacity " + given + ", length()", x.length(), cap);
    }

    private static void capacityStays() {
        TypestateChecker x = new TypestateChecker(9);
        for (int round = 0; round < 3; round++) {
            for (int i = 0; i < 9; i++) due.is("round " + round + ", add", x.add(Kit.IF, 0, 0), i);
            due.is("round " + round + ", add when full", x.add(Kit.IF, 0, 0), -1);
            x.run(1, 5);
            x.check();
            x.clear();
        }
    }

    private static void start() {
        TypestateChecker x = new TypestateChecker(12);
        due.is("length() at the start", x.length(), 0);
        due.is("the machine at the start", Kit.machine(x), Kit.INITIAL_MACHINE);
        due.is("check() at the start", x.check(), TypestateChecker.ACCEPTED);
        undeclared();
        classes();
    }

    private static void undeclared() {
        for (int cls = 0; cls < 2; cls++) {
            for (int m = 0; m < 4; m++) {
                TypestateChecker x = new TypestateChecker(8);
                x.setClass(0, cls);
                x.add(Kit.CALL, 0, m);
                due.is("calling new method " + m + " of class " + cls, x.run(0, 9), TypestateChecker.F_UNDECLARED);
                due.is("faultKind()", x.faultKind(), TypestateChecker.F_UNDECLARED);
            }
        }
    }

    private static void classes() {
        TypestateChecker x = new TypestateChecker(8);
        x.declare(0, 0, 0, 2);
        x.declare(1, 0, 0, 3);
        Kit.append(x, Kit.CALL, 0, 0, Kit.CALL, 1, 0);
        due.is("both calls", x.run(0, 9), TypestateChecker.RUN_DONE);
        due.is("object 0 is of class 0", x.objState(0), 2);
        due.is("object 1 is of class 0", x.objState(1), 2);
    }
}

/** Promise 12: the machine's pc and its count of steps. */
public final class Promise12PositionTest {
    private static final Due due = new Due("Promise12PositionTest");

    public static void main(String[] args) {
        TypestateChecker x = new TypestateChecker(16);
        at("a new object", x, 0, 0);
        everyBudget();
        fault();
        malformedAndCleared();
        longest();
        changesNothing();
        due.end();
    }

    private static void at(String what, TypestateChecker x, int pc, int steps) {
        due.is(what + ", machinePc()", x.machinePc(), pc);
        due.is(what + ", stepsDone()", x.stepsDone(), steps);
    }

    private static void everyBudget() {
        TypestateChecker x = new TypestateChecker(16);
        for (int i = 0; i < 16; i++) x.add(Kit.DROP, i % 3, 0);
        for (int n = -2; n <= 20; n++) {
            x.run(0, n);
            int steps = n < 0 ? 0 : n > 16 ? 16 : n;
            at("sixteen drops with budget " + n, x, steps, steps);
        }
    }

    private static void fault() {
        TypestateChecker x = Kit.file(Kit.CALL, 0, 0, Kit.IF, 0, 0, Kit.CALL, 0, 1, Kit.ELSE, 0, 0, Kit.DROP, 2, 0,
            Kit.END, 0, 0, Kit.CALL, 0, 0);
        x.run(1, 99);
        at("a fault after the IF part", x, 6, 4);
        x.run(0, 99);
        at("a fault after the ELSE part", x, 6, 4);
        TypestateChecker first = Kit.with(Kit.CALL, 2, 0);
        first.run(0, 99);
        at("a fault at once", first, 0, 0);
        TypestateChecker loop = Kit.file(Kit.LOOP, 0, 0, Kit.CALL, 0, 0, Kit.END, 0, 0);
        loop.run(-1, 99);
        at("a fault in the second repetition", loop, 1, 4);
        loop.run(0, 99);
        at("no repetition", loop, 3, 1);
    }

    private static void malformedAndCleared() {
        TypestateChecker x = Kit.with(Kit.DROP, 0, 0, Kit.DROP, 1, 0);
        x.run(0, 99);
        at("before", x, 2, 2);
        x.add(Kit.END, 0, 0);
        at("until the next run", x, 2, 2);
        x.run(0, 99);
        at("after a malformed run", x, 0, 0);
        Kit.program(x, Kit.DROP, 0, 0);
        x.run(0, 99);
        at("before clear", x, 1, 1);
        x.clear();
        at("after clear", x, 0, 0);
    }

    private static void longest() {
        TypestateChecker x = Kit.with(Kit.LOOP, 0, 0, Kit.DROP, 0, 0, Kit.END, 0, 0);
        for (int n : new int[] {0, 1, 2, 3, 100, 4094, 4095, 4096}) {
            x.run(-1, n);
            at("an endless loop with budget " + n, x, n % 3, n);
        }
        x.run(-1, 4098);
        at("an endless loop with budget 4098", x, 4096 % 3, 4096);
        x.run(-1, -4096);
        at("an endless loop with budget -4096", x, 0, 0);
    }

    private static void changesNothing() {
        TypestateChecker x = Kit.file(Kit.CALL, 0, 0, Kit.CALL, 0, 1, Kit.CALL, 0, 2);
        x.run(0, 2);
        String before = Kit.everything(x);
        for (int i = 0; i < 3; i++) at("asked again", x, 2, 2);
        due.is("after asking", Kit.everything(x), before);
    }
}

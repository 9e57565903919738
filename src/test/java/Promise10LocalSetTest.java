/** Promise 10: the values that a local may have at a program point. */
public final class Promise10LocalSetTest {
    private static final int NULL = 1, HALF0 = 2, FULL0 = 4, HALF1 = 8, FULL1 = 16;
    private static final Due due = new Due("Promise10LocalSetTest");

    public static void main(String[] args) {
        straight();
        branchesAndLoops();
        allValues();
        allNull();
        lastPoint();
        notReached();
        wrongArguments();
        changesNothing();
        due.end();
    }

    private static void sets(String what, TypestateChecker x, int l, int... want) {
        for (int pc = 0; pc < want.length; pc++)
            due.is(what + ", localSet(" + pc + ", " + l + ")", x.localSet(pc, l), want[pc]);
        due.is(what + ", program length", x.length() + 1, want.length);
    }

    private static void straight() {
        sets("the empty program", Kit.with(), 0, FULL0);
        sets("the empty program", Kit.with(), 1, FULL1);
        sets("the empty program", Kit.with(), 2, NULL);
        TypestateChecker x = Kit.with(Kit.SHARE, 2, 1, Kit.MERGE, 2, 1, Kit.SHARE, 1, 2, Kit.DROP, 2, 0, Kit.SHARE, 2, 0);
        sets("object 1 handed on", x, 0, FULL0, FULL0, FULL0, FULL0, FULL0, HALF0);
        sets("object 1 handed on", x, 1, FULL1, HALF1, NULL, HALF1, HALF1, HALF1);
        sets("object 1 handed on", x, 2, NULL, HALF1, FULL1, HALF1, NULL, HALF0);
    }

    /** An ELSE goes past the END, so the END sees the ELSE part alone. */
    private static void branchesAndLoops() {
        TypestateChecker branch = Kit.with(Kit.IF, 0, 0, Kit.SHARE, 2, 0, Kit.ELSE, 0, 0, Kit.DROP, 1, 0, Kit.END, 0, 0);
        sets("IF and ELSE", branch, 0, FULL0, FULL0, HALF0, FULL0, FULL0, HALF0 | FULL0);
        sets("IF and ELSE", branch, 1, FULL1, FULL1, FULL1, FULL1, NULL, NULL | FULL1);
        sets("IF and ELSE", branch, 2, NULL, NULL, HALF0, NULL, NULL, NULL | HALF0);
        TypestateChecker loop = Kit.with(Kit.LOOP, 0, 0, Kit.SHARE, 2, 0, Kit.DROP, 0, 0, Kit.END, 0, 0);
        sets("LOOP", loop, 0, NULL | FULL0, NULL | FULL0, HALF0, NULL, NULL | FULL0);
        sets("LOOP", loop, 2, NULL | HALF0, NULL | HALF0, HALF0, HALF0, NULL | HALF0);
    }

    private static void allValues() {
        TypestateChecker x = Kit.with(Kit.IF, 0, 0, Kit.SHARE, 2, 0, Kit.IF, 0, 0, Kit.MERGE, 2, 0, Kit.END, 0, 0,
            Kit.ELSE, 0, 0, Kit.IF, 0, 0, Kit.SHARE, 2, 1, Kit.IF, 0, 0, Kit.MERGE, 2, 1, Kit.END, 0, 0,
            Kit.END, 0, 0, Kit.END, 0, 0);
        due.is("check()", x.check(), TypestateChecker.ACCEPTED);
        due.is("localSet(13, 2)", x.localSet(13, 2), 31);
        due.is("localSet(13, 0)", x.localSet(13, 0), NULL | HALF0 | FULL0);
        due.is("localSet(13, 1)", x.localSet(13, 1), NULL | HALF1 | FULL1);
    }

    private static void allNull() {
        TypestateChecker x = Kit.with(Kit.LOOP, 0, 0, Kit.DROP, 0, 0, Kit.DROP, 1, 0, Kit.END, 0, 0);
        due.is("check()", x.check(), TypestateChecker.ACCEPTED);
        sets("everything dropped", x, 0, NULL | FULL0, NULL | FULL0, NULL, NULL, NULL | FULL0);
        sets("everything dropped", x, 1, NULL | FULL1, NULL | FULL1, NULL | FULL1, NULL, NULL | FULL1);
        sets("everything dropped", x, 2, NULL, NULL, NULL, NULL, NULL);
    }

    private static void lastPoint() {
        TypestateChecker x = Kit.with(Kit.SHARE, 2, 1);
        for (int i = 1; i < 16; i++) x.add(Kit.DROP, 0, 0);
        due.is("localSet(16, 0) of a full program", x.localSet(16, 0), NULL);
        due.is("localSet(16, 1) of a full program", x.localSet(16, 1), HALF1);
        due.is("localSet(16, 2) of a full program", x.localSet(16, 2), HALF1);
        due.is("localSet(17, 2) of a full program", x.localSet(17, 2), 0);
    }

    private static void notReached() {
        TypestateChecker fault = Kit.with(Kit.DROP, 0, 0, Kit.SHARE, 2, 0, Kit.DROP, 1, 0);
        sets("nothing is reached after a certain fault", fault, 0, FULL0, NULL, 0, 0);
        sets("nothing is reached after a certain fault", fault, 2, NULL, NULL, 0, 0);
        TypestateChecker part = Kit.with(Kit.IF, 0, 0, Kit.DROP, 0, 0, Kit.END, 0, 0, Kit.SHARE, 2, 0);
        sets("a faulting configuration goes no further", part, 0, FULL0, FULL0, NULL, NULL | FULL0, HALF0);
        TypestateChecker never = Kit.with(Kit.IFIN, 1, 0, Kit.DROP, 1, 0, Kit.ELSE, 0, 0, Kit.DROP, 0, 0, Kit.END, 0, 0);
        sets("an ELSE never taken", never, 1, FULL1, FULL1, NULL, 0, 0, NULL);
    }

    private static void wrongArguments() {
        TypestateChecker x = Kit.with(Kit.DROP, 0, 0, Kit.DROP, 1, 0);
        for (int l : new int[] {Integer.MIN_VALUE, -1, 3, 4, Integer.MAX_VALUE})
            for (int pc = -1; pc <= 3; pc++) due.is("localSet(" + pc + ", " + l + ")", x.localSet(pc, l), 0);
        for (int pc : new int[] {Integer.MIN_VALUE, -1, 3, 4, 16, 17, Integer.MAX_VALUE})
            for (int l = 0; l < 3; l++) due.is("localSet(" + pc + ", " + l + ")", x.localSet(pc, l), 0);
        x.add(Kit.END, 0, 0);
        for (int pc = -1; pc <= 4; pc++) due.is("malformed, localSet(" + pc + ", 0)", x.localSet(pc, 0), 0);
        x.clear();
        due.is("cleared, localSet(0, 0)", x.localSet(0, 0), FULL0);
        due.is("cleared, localSet(1, 0)", x.localSet(1, 0), 0);
    }

    private static void changesNothing() {
        TypestateChecker x = Kit.file(Kit.CALL, 0, 0, Kit.LOOP, 0, 0, Kit.SHARE, 2, 0, Kit.MERGE, 0, 2, Kit.END, 0, 0);
        x.run(1, 3);
        String before = Kit.everything(x);
        for (int pc = -1; pc <= 17; pc++) x.localSet(pc, 2);
        due.is("after localSet", Kit.everything(x), before);
        x.declare(0, 0, 1, 1);
        due.is("with a declaration that faults", x.localSet(2, 2), 0);
    }
}

/** Promise 9: the states that an object may have at a program point. */
public final class Promise09StateSetTest {
    private static final Due due = new Due("Promise09StateSetTest");

    public static void main(String[] args) {
        straight();
        branchesAndLoops();
        exactPairs();
        lastPoint();
        notReached();
        wrongArguments();
        changesNothing();
        due.end();
    }

    private static void sets(String what, TypestateChecker x, int obj, int... want) {
        for (int pc = 0; pc < want.length; pc++)
            due.is(what + ", stateSet(" + pc + ", " + obj + ")", x.stateSet(pc, obj), want[pc]);
        due.is(what + ", program length", x.length() + 1, want.length);
    }

    /** Every method m goes from any state that the test asks for; here m is 0 to 1, 1 to 2, 2 to 3, 3 to 0. */
    private static TypestateChecker cycle(int... statements) {
        TypestateChecker x = Kit.with(statements);
        for (int m = 0; m < 4; m++) x.declare(0, m, m, (m + 1) % 4);
        return x;
    }

    private static void straight() {
        sets("the empty program", Kit.with(), 0, 1);
        sets("the empty program", Kit.with(), 1, 1);
        TypestateChecker x = cycle(Kit.CALL, 0, 0, Kit.CALL, 1, 0, Kit.CALL, 0, 1, Kit.CALL, 0, 2, Kit.CALL, 0, 3);
        sets("five calls", x, 0, 1, 2, 2, 4, 8, 1);
        sets("five calls", x, 1, 1, 1, 2, 2, 2, 2);
    }

    /** An ELSE, and an IF without one that is not entered, go past the END, so the END sees one part alone. */
    private static void branchesAndLoops() {
        TypestateChecker branch = cycle(Kit.IF, 0, 0, Kit.CALL, 0, 0, Kit.ELSE, 0, 0, Kit.CALL, 1, 0, Kit.END, 0, 0);
        sets("IF and ELSE", branch, 0, 1, 1, 2, 1, 1, 3);
        sets("IF and ELSE", branch, 1, 1, 1, 1, 1, 2, 3);
        TypestateChecker loop = cycle(Kit.LOOP, 0, 0, Kit.CALL, 0, 0, Kit.CALL, 0, 1, Kit.CALL, 0, 2, Kit.IF, 0, 0,
            Kit.CALL, 0, 3, Kit.END, 0, 0, Kit.END, 0, 0);
        sets("LOOP", loop, 0, 9, 9, 2, 4, 8, 8, 1, 9, 9);
        sets("LOOP", loop, 1, 1, 1, 1, 1, 1, 1, 1, 1, 1);
        TypestateChecker ifin = cycle(Kit.IF, 0, 0, Kit.CALL, 0, 0, Kit.END, 0, 0, Kit.IFIN, 0, 1, Kit.CALL, 0, 1,
            Kit.ELSE, 0, 0, Kit.CALL, 0, 0, Kit.END, 0, 0);
        sets("IFIN", ifin, 0, 1, 1, 2, 3, 2, 4, 1, 2, 6);
        TypestateChecker all = cycle(Kit.LOOP, 0, 0, Kit.IFIN, 0, 0, Kit.CALL, 0, 0, Kit.ELSE, 0, 0, Kit.IFIN, 0, 1,
            Kit.CALL, 0, 1, Kit.ELSE, 0, 0, Kit.CALL, 0, 2, Kit.END, 0, 0, Kit.END, 0, 0, Kit.END, 0, 0);
        sets("all four states", all, 0, 15, 15, 1, 2, 14, 2, 4, 12, 8, 12, 14, 15);
    }

    /** The states of the two objects move together; an IFIN on one tells what the other may be. */
    private static void exactPairs() {
        TypestateChecker x = cycle(Kit.IF, 0, 0, Kit.CALL, 0, 0, Kit.CALL, 1, 0, Kit.CALL, 1, 1, Kit.END, 0, 0,
            Kit.IFIN, 0, 1, Kit.DROP, 2, 0, Kit.ELSE, 0, 0, Kit.DROP, 2, 0, Kit.END, 0, 0);
        due.is("object 1 before the IFIN", x.stateSet(5, 1), 5);
        due.is("object 1 where object 0 is in state 1", x.stateSet(6, 1), 4);
        due.is("object 1 where object 0 is not", x.stateSet(8, 1), 1);
    }

    private static void lastPoint() {
        TypestateChecker x = cycle(Kit.CALL, 0, 0, Kit.CALL, 0, 1, Kit.CALL, 0, 2, Kit.CALL, 1, 0);
        for (int i = 4; i < 16; i++) x.add(Kit.DROP, 2, 0);
        due.is("stateSet(16, 0) of a full program", x.stateSet(16, 0), 8);
        due.is("stateSet(16, 1) of a full program", x.stateSet(16, 1), 2);
        due.is("stateSet(17, 0) of a full program", x.stateSet(17, 0), 0);
    }

    private static void notReached() {
        TypestateChecker fault = Kit.with(Kit.DROP, 0, 0, Kit.CALL, 0, 0, Kit.DROP, 1, 0);
        sets("nothing is reached after a certain fault", fault, 0, 1, 1, 0, 0);
        TypestateChecker part = cycle(Kit.IF, 0, 0, Kit.CALL, 0, 0, Kit.END, 0, 0, Kit.CALL, 0, 0);
        sets("a faulting configuration goes no further", part, 0, 1, 1, 2, 3, 2);
        TypestateChecker never = Kit.with(Kit.IFIN, 0, 2, Kit.DROP, 0, 0, Kit.ELSE, 0, 0, Kit.DROP, 1, 0, Kit.END, 0, 0);
        sets("a branch never taken", never, 1, 1, 0, 0, 1, 1, 1);
    }

    private static void wrongArguments() {
        TypestateChecker x = cycle(Kit.CALL, 0, 0, Kit.CALL, 1, 0);
        for (int obj : new int[] {Integer.MIN_VALUE, -1, 2, 3, Integer.MAX_VALUE})
            for (int pc = -1; pc <= 3; pc++) due.is("stateSet(" + pc + ", " + obj + ")", x.stateSet(pc, obj), 0);
        for (int pc : new int[] {Integer.MIN_VALUE, -1, 3, 4, 16, 17, Integer.MAX_VALUE})
            for (int obj = 0; obj < 2; obj++) due.is("stateSet(" + pc + ", " + obj + ")", x.stateSet(pc, obj), 0);
        x.add(Kit.LOOP, 0, 0);
        for (int pc = -1; pc <= 4; pc++) due.is("malformed, stateSet(" + pc + ", 0)", x.stateSet(pc, 0), 0);
        x.add(Kit.END, 0, 0);
        due.is("well-formed again, stateSet(4, 0)", x.stateSet(4, 0), 2);
    }

    private static void changesNothing() {
        TypestateChecker x = cycle(Kit.CALL, 0, 0, Kit.LOOP, 0, 0, Kit.SHARE, 2, 0, Kit.MERGE, 0, 2, Kit.END, 0, 0);
        x.run(1, 3);
        String before = Kit.everything(x);
        for (int pc = -1; pc <= 17; pc++) x.stateSet(pc, 0);
        due.is("after stateSet", Kit.everything(x), before);
        x.declare(0, 0, 0, 3);
        due.is("with another declaration", x.stateSet(5, 0), 8);
    }
}

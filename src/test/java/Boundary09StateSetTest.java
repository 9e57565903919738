/** Promise 9, sentence by sentence: the edges of pc and obj for each length, and points that nothing reaches. */
public final class Boundary09StateSetTest {
    private static final Section section =
        new Section("Boundary09StateSetTest", "## Promise 9: Possible object states", "## ");
    private static final Due due = section.due;
    private static final int IF = Kit.IF, ELSE = Kit.ELSE, END = Kit.END, LOOP = Kit.LOOP, CALL = Kit.CALL,
        DROP = Kit.DROP, IFIN = Kit.IFIN;

    public static void main(String[] args) {
        section.sentence("`stateSet(pc, obj)` answers 0 if the program is malformed,", Boundary09StateSetTest::malformed);
        section.sentence("pc is not in 0..length,", Boundary09StateSetTest::pcEdges);
        section.sentence("or obj is not in 0..1.", Boundary09StateSetTest::objectEdges);
        section.sentence("Otherwise it answers a bit set over states: bit s (value 1<<s) is set iff some reachable "
            + "configuration with this pc has object obj in state s.", Boundary09StateSetTest::bits);
        section.sentence("It answers 0 if no reachable configuration has this pc.", Boundary09StateSetTest::unreached);
        section.sentence("pc equal to length is allowed and speaks of configurations in which the program has ended.",
            Boundary09StateSetTest::ended);
        section.sentence("Only bits 0..3 can be set.", Boundary09StateSetTest::onlyFourBits);
        section.sentence("It changes nothing.", () -> Situations.ask(due, "stateSet", x -> {
            for (int pc : Kit.around(0, 16)) for (int obj = -1; obj <= 2; obj++) x.stateSet(pc, obj);
        }));
        section.end();
    }

    private static void is(String what, TypestateChecker x, int pc, int obj, int want) {
        due.is("stateSet(" + pc + ", " + obj + ") of " + what, x.stateSet(pc, obj), want);
    }

    /** m0 goes from 0 to 1, m1 from 1 to 2, m2 from 2 to 3, m3 from 3 to 0. */
    private static TypestateChecker cycle(int... statements) {
        TypestateChecker x = Kit.with(statements);
        for (int m = 0; m < 4; m++) x.declare(0, m, m, (m + 1) % 4);
        return x;
    }

    private static void malformed() {
        for (int[] statements : Programs.MALFORMED) {
            TypestateChecker x = cycle(statements);
            for (int pc = -1; pc <= 17; pc++)
                for (int obj = -1; obj <= 2; obj++) is("a malformed program", x, pc, obj, 0);
        }
        TypestateChecker x = cycle(CALL, 0, 0, LOOP, 0, 0);
        is("an open loop", x, 0, 0, 0);
        is("an open loop", x, 1, 0, 0);
        is("an open loop", x, 2, 0, 0);
        x.add(END, 0, 0);
        is("a closed loop", x, 0, 0, 1);
        is("a closed loop", x, 1, 0, 2);
        is("a closed loop", x, 3, 0, 2);
        x.add(END, 0, 0);
        is("a doubly closed loop", x, 1, 0, 0);
    }

    private static void pcEdges() {
        TypestateChecker x = new TypestateChecker(16);
        for (int length = 0; length <= 16; length++) {
            for (int obj = 0; obj <= 1; obj++) {
                for (int pc : Kit.outside(0, length)) is(length + " statements", x, pc, obj, 0);
                for (int pc = 0; pc <= length; pc++) is(length + " statements", x, pc, obj, 1);
            }
            x.add(DROP, 2, 0);
        }
        // A point that the program had before it was cleared is outside as well.
        x.clear();
        is("the cleared program", x, 0, 0, 1);
        for (int pc = 1; pc <= 17; pc++) is("the cleared program", x, pc, 0, 0);
    }

    private static void objectEdges() {
        TypestateChecker x = cycle(CALL, 0, 0, CALL, 1, 0);
        for (int pc = -1; pc <= 3; pc++) for (int obj : Kit.outside(0, 1)) is("two calls", x, pc, obj, 0);
        is("two calls", x, 1, 0, 2);
        is("two calls", x, 1, 1, 1);
        is("two calls", x, 2, 0, 2);
        is("two calls", x, 2, 1, 2);
    }

    private static void bits() {
        for (int set = 1; set < 16; set++) for (int obj = 0; obj < 2; obj++) eachSet(set, obj);
        TypestateChecker all = cycle(LOOP, 0, 0, IFIN, 0, 0, CALL, 0, 0, ELSE, 0, 0, IFIN, 0, 1, CALL, 0, 1, ELSE, 0, 0,
            CALL, 0, 2, END, 0, 0, END, 0, 0, END, 0, 0);
        int[] want = {15, 15, 1, 2, 14, 2, 4, 12, 8, 12, 14, 15};
        for (int pc = 0; pc < want.length; pc++) is("a loop through four states", all, pc, 0, want[pc]);
        for (int pc = 0; pc < want.length; pc++) is("a loop through four states", all, pc, 1, 1);
        is("a state behind 450 configurations", Far.state(), 5, 0, 7);
        is("a state behind 450 configurations", Far.state(), 6, 0, 5);
    }

    /** A program that ends in just the given states of the object: one IF for each state beside the first. */
    private static void eachSet(int set, int obj) {
        TypestateChecker x = new TypestateChecker(16);
        int first = Integer.numberOfTrailingZeros(set);
        // Method s leads from the first state to s; which of them is called the decisions tell.
        x.declare(1, 0, 0, first);
        x.setClass(obj, 1);
        x.add(CALL, obj, 0);
        int ways = 0;
        for (int s = first + 1; s < 4; s++) {
            if ((set >> s & 1) == 0) continue;
            x.declare(1, s, first, s);
            Kit.append(x, IF, 0, 0, CALL, obj, s, ELSE, 0, 0);
            ways++;
        }
        for (int i = 0; i < ways; i++) x.add(END, 0, 0);
        due.is("check()", x.check(), TypestateChecker.ACCEPTED);
        is("a program to set " + set, x, x.length(), obj, set);
        is("a program to set " + set, x, 1, obj, 1 << first);
        is("a program to set " + set, x, x.length(), 1 - obj, 1);
    }

    private static void unreached() {
        // Before the sure fault a point is reached, behind it none is, the end included.
        TypestateChecker fault = cycle(CALL, 0, 0, CALL, 2, 0, DROP, 1, 0);
        int[] want = {1, 2, 0, 0};
        for (int pc = 0; pc < 4; pc++) is("a sure fault", fault, pc, 0, want[pc]);
        TypestateChecker atOnce = cycle(CALL, 2, 0);
        is("a fault at once", atOnce, 0, 0, 1);
        is("a fault at once", atOnce, 1, 0, 0);
        TypestateChecker never = cycle(IFIN, 0, 1, CALL, 0, 0, ELSE, 0, 0, DROP, 1, 0, END, 0, 0);
        int[] first = {1, 0, 0, 1, 1, 1};
        for (int pc = 0; pc < 6; pc++) is("a first part never entered", never, pc, 0, first[pc]);
        TypestateChecker always = cycle(IFIN, 0, 0, CALL, 0, 0, ELSE, 0, 0, DROP, 1, 0, END, 0, 0);
        // The ELSE goes past the END, so that the END is not reached either.
        int[] second = {1, 1, 2, 0, 0, 2};
        for (int pc = 0; pc < 6; pc++) is("an ELSE never entered", always, pc, 0, second[pc]);
        TypestateChecker loop = cycle(LOOP, 0, 0, CALL, 2, 0, END, 0, 0);
        int[] third = {1, 1, 0, 1};
        for (int pc = 0; pc < 4; pc++) is("a loop that never comes round", loop, pc, 0, third[pc]);
    }

    private static void ended() {
        is("the empty program", new TypestateChecker(8), 0, 0, 1);
        is("the empty program", new TypestateChecker(8), 0, 1, 1);
        for (int length = 1; length <= 16; length++) {
            TypestateChecker x = cycle(Programs.repeat(length - 1, DROP, 2, 0));
            x.add(CALL, 1, 0);
            is("a call as the last of " + length, x, length - 1, 1, 1);
            is("a call as the last of " + length, x, length, 1, 2);
            is("a call as the last of " + length, x, length + 1, 1, 0);
        }
        // Only those that come to the end count there.
        TypestateChecker part = cycle(IF, 0, 0, CALL, 0, 0, END, 0, 0, CALL, 0, 1);
        is("an end that one way reaches", part, 3, 0, 3);
        is("an end that one way reaches", part, 4, 0, 4);
        TypestateChecker loop = cycle(LOOP, 0, 0, CALL, 0, 0, CALL, 0, 1, CALL, 0, 2, CALL, 0, 3, END, 0, 0);
        is("the end after a loop", loop, 6, 0, 1);
    }

    private static void onlyFourBits() {
        int[][][] lists = {Programs.ACCEPTED, Programs.REJECTED, Programs.MALFORMED};
        for (int[][] list : lists) {
            for (int[] statements : list) {
                TypestateChecker x = cycle(statements);
                for (int pc : Kit.around(0, 16)) {
                    for (int obj = -2; obj <= 3; obj++)
                        due.is("stateSet is in 0..15", Kit.in(0, x.stateSet(pc, obj), 15), true);
                }
            }
        }
    }
}

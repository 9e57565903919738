import java.util.stream.IntStream;

/** What the tests share: short ways to write programs and to look at everything an object shows. */
final class Kit {
    static final int CALL = TypestateChecker.OP_CALL, SHARE = TypestateChecker.OP_SHARE,
        MERGE = TypestateChecker.OP_MERGE, DROP = TypestateChecker.OP_DROP, IF = TypestateChecker.OP_IF,
        IFIN = TypestateChecker.OP_IFIN, ELSE = TypestateChecker.OP_ELSE, LOOP = TypestateChecker.OP_LOOP,
        END = TypestateChecker.OP_END;

    static final int[] OUTSIDE = {Integer.MIN_VALUE, -1000, -1, 17, 1000, Integer.MAX_VALUE};
    static final String INITIAL_MACHINE = "pc 0 steps 0 states 0 0 locals 0:2 1:2 -1:0";

    private Kit() {
    }

    /**
     * Numbers outside first..last: those beside it on both sides, the ends of int, and some that would fall
     * into it if they were cut to a byte or a short or lost their sign.
     */
    static int[] outside(int first, int last) {
        int least = Integer.MIN_VALUE, greatest = Integer.MAX_VALUE;
        return IntStream.of(least, least + 1, least + first, least + last, first - 65536, last - 65536,
                first - 256, last - 256, -first, -last, first - 3, first - 2, first - 1,
                last + 1, last + 2, last + 3, first + 256, last + 256, first + 65536, last + 65536,
                greatest - 1, greatest)
            .filter(v -> v < first || v > last).distinct().toArray();
    }

    /** The numbers of first..last and those outside it. */
    static int[] around(int first, int last) {
        return IntStream.concat(IntStream.rangeClosed(first, last), IntStream.of(outside(first, last))).toArray();
    }

    static boolean in(int first, int v, int last) {
        return first <= v && v <= last;
    }

    /** A new object with the greatest capacity and the given program, three numbers a statement. */
    static TypestateChecker with(int... statements) {
        TypestateChecker x = new TypestateChecker(16);
        program(x, statements);
        return x;
    }

    /** Clears the object and appends the program, three numbers a statement. */
    static void program(TypestateChecker x, int... statements) {
        x.clear();
        append(x, statements);
    }

    static void append(TypestateChecker x, int... statements) {
        for (int i = 0; i < statements.length; i += 3) {
            int index = x.add(statements[i], statements[i + 1], statements[i + 2]);
            if (index < 0) throw new IllegalStateException("the test's own statement " + i / 3 + " was refused");
        }
    }

    /** An open/use/close protocol on class 0: m0 is 0 to 1, m1 is 1 to 1, m2 is 1 to 0; m3 is undeclared. */
    static TypestateChecker file(int... statements) {
        TypestateChecker x = with(statements);
        x.declare(0, 0, 0, 1);
        x.declare(0, 1, 1, 1);
        x.declare(0, 2, 1, 0);
        return x;
    }

    static String machine(TypestateChecker x) {
        return "pc " + x.machinePc() + " steps " + x.stepsDone()
            + " states " + x.objState(0) + " " + x.objState(1)
            + " locals " + local(x, 0) + " " + local(x, 1) + " " + local(x, 2);
    }

    private static String local(TypestateChecker x, int l) {
        return x.localObject(l) + ":" + x.localPerm(l);
    }

    /** What the checker says of the program: any change of program, protocol or classes that matters shows here. */
    static String checker(TypestateChecker x) {
        StringBuilder all = new StringBuilder();
        all.append(x.length()).append(' ').append(x.check()).append(' ')
            .append(x.faultPc()).append(' ').append(x.faultKind());
        for (int pc = 0; pc <= x.length(); pc++) {
            all.append(" |").append(pc);
            for (int obj = 0; obj < 2; obj++) all.append(" s").append(x.stateSet(pc, obj));
            for (int l = 0; l < 3; l++) all.append(" l").append(x.localSet(pc, l));
        }
        return all.toString();
    }

    static String everything(TypestateChecker x) {
        return machine(x) + " / " + checker(x);
    }
}

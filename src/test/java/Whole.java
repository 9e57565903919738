import java.util.function.Supplier;

/**
 * Everything that an object holds, also what it does not show of itself: the capacity, each declaration,
 * the classes, the program and the machine. To see it the object is used up, so it is made anew for each look.
 */
final class Whole {
    private static final int[] CHOICES = {0, 1, 2, 5, 0x55555555, 0xaaaaaaaa, 0x7fffffff, -1};

    private Whole() {
    }

    static String of(Supplier<TypestateChecker> make) {
        return "machine " + Kit.machine(make.get())
            + "\n    checker " + Kit.checker(make.get())
            + "\n    capacity " + capacity(make.get())
            + "\n    " + protocol(make)
            + "\n    program " + program(make);
    }

    /** The declarations and the classes alone. */
    static String protocol(Supplier<TypestateChecker> make) {
        StringBuilder all = new StringBuilder("classes ");
        for (int obj = 0; obj < 2; obj++) all.append(classOf(make.get(), obj)).append(' ');
        all.append("declarations");
        for (int cls = 0; cls < 2; cls++)
            for (int m = 0; m < 4; m++) all.append(' ').append(declaration(make, cls, m));
        return all.toString();
    }

    /**
     * An object with all eight methods declared, whose program calls all of them that its objects' classes have:
     * a lost declaration, class or statement makes a call of it fault. Class 0 goes up, class 1 goes down.
     */
    static TypestateChecker allCalled(int c0, int c1) {
        TypestateChecker x = new TypestateChecker(8);
        for (int m = 0; m < 4; m++) {
            x.declare(0, m, m, (m + 1) % 4);
            x.declare(1, m, m, (m + 3) % 4);
        }
        x.setClass(0, c0);
        x.setClass(1, c1);
        for (int i = 0; i < 8; i++) {
            int cls = i < 4 ? c0 : c1;
            x.add(Kit.CALL, i / 4, cls == 0 ? i % 4 : (8 - i) % 4);
        }
        return x;
    }

    /** What the checker says of allCalled. */
    static String allAccepted(int c0, int c1) {
        int[][] states = {{1, 2, 4, 8, 1}, {1, 8, 4, 2, 1}};
        StringBuilder all = new StringBuilder("8 10 -1 -1");
        for (int pc = 0; pc <= 8; pc++) {
            all.append(" |").append(pc).append(" s").append(states[c0][Math.min(pc, 4)])
                .append(" s").append(states[c1][Math.max(pc - 4, 0)]).append(" l4 l16 l1");
        }
        return all.toString();
    }

    static int capacity(TypestateChecker x) {
        x.clear();
        int taken = 0;
        while (taken < 100 && x.add(Kit.DROP, 2, 0) >= 0) taken++;
        return taken;
    }

    static int classOf(TypestateChecker x, int obj) {
        x.declare(0, 0, 0, 1);
        x.declare(1, 0, 0, 2);
        Kit.program(x, Kit.CALL, obj, 0);
        x.run(0, 1);
        return x.objState(obj) - 1;
    }

    /** The method is called in each state, to which another method of the class leads. */
    static String declaration(Supplier<TypestateChecker> make, int cls, int m) {
        int other = (m + 1) % 4;
        StringBuilder found = new StringBuilder();
        for (int state = 0; state < 4; state++) {
            TypestateChecker x = make.get();
            x.setClass(0, cls);
            x.declare(cls, other, 0, state);
            Kit.program(x, Kit.CALL, 0, other, Kit.CALL, 0, m);
            if (x.run(0, 2) == TypestateChecker.RUN_DONE) found.append(state).append('>').append(x.objState(0));
        }
        return found.length() == 0 ? "none" : found.toString();
    }

    /** The program's answers under other protocols and its ways through other decisions. */
    private static String program(Supplier<TypestateChecker> make) {
        StringBuilder all = new StringBuilder();
        for (int kind = 0; kind < 3; kind++) {
            TypestateChecker x = make.get();
            for (int i = 0; i < 8; i++) x.declare(i / 4, i % 4, kind == 0 ? 0 : i % 4, (kind * i) % 4);
            for (int choices : CHOICES) {
                for (int steps = 1; steps < 20; steps += 3)
                    all.append(' ').append(x.run(choices, steps)).append(' ').append(Kit.machine(x));
            }
            // After the runs, so that a question that changed the program could not hide it from them.
            all.append(Kit.checker(x));
            x.add(Kit.END, 0, 0);
            all.append(" with an END more ").append(Kit.checker(x));
        }
        return all.toString();
    }
}

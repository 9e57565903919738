/** Programs in which something lies far from the initial configuration: a search that stops early misses it. */
final class Far {
    private static final int IF = Kit.IF, ELSE = Kit.ELSE, END = Kit.END, LOOP = Kit.LOOP, CALL = Kit.CALL,
        SHARE = Kit.SHARE, MERGE = Kit.MERGE, DROP = Kit.DROP, IFIN = Kit.IFIN;

    private Far() {
    }

    /** The nearest configuration that faults lies 58 steps away; the decisions on the way there are twelve ones. */
    static TypestateChecker fault() {
        TypestateChecker x = Kit.with(LOOP, 0, 0, IF, 0, 0, DROP, 2, 0, DROP, 2, 0, IFIN, 0, 3, CALL, 0, 1, SHARE, 2, 1,
            IFIN, 1, 0, MERGE, 1, 2, CALL, 1, 0, END, 0, 0, ELSE, 0, 0, CALL, 0, 0, END, 0, 0, END, 0, 0, END, 0, 0);
        x.setClass(0, 1);
        x.setClass(1, 1);
        x.declare(1, 0, 0, 3);
        x.declare(1, 1, 3, 0);
        return x;
    }

    /** The call faults in the second round alone; 153 configurations lie nearer than the first that faults. */
    static TypestateChecker faultBehindMany() {
        TypestateChecker x = Kit.with(LOOP, 0, 0, IF, 0, 0, DROP, 1, 0, ELSE, 0, 0, DROP, 2, 0, END, 0, 0, IF, 0, 0,
            CALL, 0, 0, END, 0, 0, IF, 0, 0, SHARE, 2, 0, END, 0, 0, LOOP, 0, 0, DROP, 0, 0, END, 0, 0, END, 0, 0);
        x.declare(0, 0, 0, 1);
        return x;
    }

    /** Local 1 must lose object 1 and come to object 0 before statement 5 sees it in state 2: 450 lie nearer. */
    static TypestateChecker state() {
        TypestateChecker x = Kit.with(LOOP, 0, 0, LOOP, 0, 0, CALL, 1, 3, END, 0, 0, IF, 0, 0, CALL, 1, 1, END, 0, 0,
            IF, 0, 0, SHARE, 2, 1, END, 0, 0, DROP, 1, 0, LOOP, 0, 0, SHARE, 1, 0, MERGE, 1, 0, END, 0, 0, END, 0, 0);
        x.setClass(1, 1);
        x.declare(0, 3, 0, 1);
        x.declare(0, 1, 1, 2);
        x.declare(1, 3, 0, 3);
        x.declare(1, 1, 0, 1);
        return x;
    }

    /** Local 2 comes to half of object 1 before statement 6 only by way of local 0: 376 lie nearer. */
    static TypestateChecker local() {
        TypestateChecker x = Kit.with(LOOP, 0, 0, IF, 0, 0, ELSE, 0, 0, CALL, 0, 2, END, 0, 0, IF, 0, 0, SHARE, 2, 0,
            END, 0, 0, DROP, 0, 0, LOOP, 0, 0, SHARE, 0, 1, END, 0, 0, LOOP, 0, 0, MERGE, 0, 1, END, 0, 0, END, 0, 0);
        x.declare(0, 2, 0, 1);
        return x;
    }
}

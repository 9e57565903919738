/** Promise 8, sentence by sentence: no fault at all, the first and the last index, and each pair of codes. */
public final class Boundary08LeastFaultTest {
    private static final Section section =
        new Section("Boundary08LeastFaultTest", "## Promise 8: The least faulting index and its least fault code", "## ");
    private static final Due due = section.due;
    private static final int IF = Kit.IF, ELSE = Kit.ELSE, END = Kit.END, LOOP = Kit.LOOP, CALL = Kit.CALL,
        SHARE = Kit.SHARE, MERGE = Kit.MERGE, DROP = Kit.DROP, IFIN = Kit.IFIN;

    public static void main(String[] args) {
        section.sentence("`faultPc()` answers -1 unless `check()` would answer REJECTED;", () -> noFault(true));
        section.sentence("else it answers the least index i such that some reachable configuration with pc i faults.",
            Boundary08LeastFaultTest::leastIndex);
        section.sentence("`faultKind()` answers -1 unless `check()` would answer REJECTED;", () -> noFault(false));
        section.sentence("else it answers the least fault code among the faults of the reachable configurations with pc "
            + "equal to `faultPc()`.", Boundary08LeastFaultTest::leastCode);
        section.sentence("Both change nothing.", () -> Situations.ask(due, "faultPc() and faultKind()", x -> {
            x.faultPc();
            x.faultKind();
        }));
        section.end();
    }

    private static int answer(TypestateChecker x, boolean pc) {
        return pc ? x.faultPc() : x.faultKind();
    }

    private static void noFault(boolean pc) {
        String what = pc ? "faultPc()" : "faultKind()";
        due.is(what + " of a new object", answer(new TypestateChecker(8), pc), -1);
        for (int[] statements : Programs.ACCEPTED) due.is(what + " when accepted", answer(Kit.file(statements), pc), -1);
        for (int[] statements : Programs.MALFORMED) due.is(what + " when malformed", answer(Kit.file(statements), pc), -1);
        for (int[] statements : Programs.REJECTED) {
            TypestateChecker x = Kit.file(statements);
            due.is(what + " when rejected is not -1", answer(x, pc) >= 0, true);
            x.clear();
            due.is(what + " when cleared after a rejection", answer(x, pc), -1);
        }
        TypestateChecker x = Kit.file(CALL, 2, 0);
        due.is(what + " of a faulting call", answer(x, pc), pc ? 0 : TypestateChecker.F_NULL);
        x.add(LOOP, 0, 0);
        due.is(what + " when malformed since", answer(x, pc), -1);
        x.add(END, 0, 0);
        due.is(what + " when closed again", answer(x, pc), pc ? 0 : TypestateChecker.F_NULL);
    }

    private static void at(String what, int index, TypestateChecker x) {
        due.is("faultPc() of " + what, x.faultPc(), index);
    }

    private static void leastIndex() {
        for (int length = 1; length <= 16; length++)
            for (int i = 0; i < length; i++) at("a fault at " + i + " of " + length, i, oneFault(length, i));
        // Two faults, each on a way of its own; the greater index is found in fewer steps or on decision 0.
        at("faults in both parts", 1, Kit.with(IF, 0, 0, MERGE, 0, 1, ELSE, 0, 0, CALL, 2, 0, END, 0, 0));
        at("faults in the first part and after it", 2,
            Kit.with(IF, 0, 0, DROP, 2, 0, MERGE, 0, 1, END, 0, 0, CALL, 2, 0));
        at("faults in the second repetition and after the loop", 1,
            Kit.with(LOOP, 0, 0, SHARE, 2, 0, END, 0, 0, CALL, 2, 0));
        at("faults in the second repetition and at its end", 1,
            Kit.with(LOOP, 0, 0, SHARE, 2, 0, IF, 0, 0, MERGE, 0, 1, END, 0, 0, END, 0, 0));
        at("a fault that cannot be reached stands before", 4,
            Kit.with(IFIN, 0, 1, CALL, 2, 0, END, 0, 0, DROP, 2, 0, CALL, 2, 0));
        at("a fault stands behind a sure fault", 0, Kit.with(MERGE, 0, 1, CALL, 2, 0));
        at("a fault 58 steps away", 6, Far.fault());
        at("a fault behind 153 configurations", 7, Far.faultBehindMany());
        everyPairOfIndices();
    }

    private static TypestateChecker oneFault(int length, int at) {
        TypestateChecker x = new TypestateChecker(16);
        for (int i = 0; i < length; i++) x.add(i == at ? CALL : DROP, 2, 0);
        return x;
    }

    /** In fourteen drops under an IF, two faults; the second is reached only if the first is skipped. */
    private static void everyPairOfIndices() {
        for (int i = 1; i < 13; i++) {
            for (int j = i + 2; j < 15; j++) {
                TypestateChecker x = new TypestateChecker(16);
                for (int k = 0; k < 16; k++) {
                    if (k == 0) x.add(IF, 0, 0);
                    else if (k == i) x.add(MERGE, 0, 1);
                    else if (k == i + 1) x.add(END, 0, 0);
                    else x.add(k == j ? CALL : DROP, 2, 0);
                }
                at("faults at " + i + " and " + j, i, x);
                due.is("faultKind()", x.faultKind(), TypestateChecker.F_MERGE);
            }
        }
    }

    private static void leastCode() {
        int[] codes = {1, 2, 3, 4, 5, 6, 7};
        int[][] alone = {{CALL, 2, 0}, {CALL, 0, 3}, {CALL, 0, 1}, {SHARE, 2, 0, CALL, 2, 0}, {SHARE, 1, 0},
            {SHARE, 2, 0, DROP, 1, 0, SHARE, 1, 2}, {MERGE, 0, 1}};
        for (int i = 0; i < 7; i++) due.is("faultKind() of code " + codes[i] + " alone",
            Kit.file(alone[i]).faultKind(), codes[i]);
        // Before the last statement stands a choice; with it the statement can fault in two ways.
        pair(1, new int[] {}, new int[] {DROP, 0, 0}, CALL, 0, 3);
        pair(1, new int[] {}, new int[] {DROP, 0, 0}, CALL, 0, 1);
        pair(1, new int[] {SHARE, 2, 0}, new int[] {DROP, 0, 0}, CALL, 0, 0);
        pair(2, new int[] {}, new int[] {DROP, 0, 0, SHARE, 0, 1}, CALL, 0, 1);
        pair(2, new int[] {SHARE, 2, 0}, new int[] {DROP, 0, 0, SHARE, 0, 1}, CALL, 0, 0);
        pair(3, new int[] {}, new int[] {CALL, 0, 0}, SHARE, 2, 0, CALL, 0, 0);
        pair(1, new int[] {}, new int[] {DROP, 0, 0}, SHARE, 1, 0);
        pair(1, new int[] {SHARE, 2, 0, DROP, 1, 0}, new int[] {DROP, 0, 0}, SHARE, 1, 0);
        pair(5, new int[] {SHARE, 2, 0}, new int[] {DROP, 1, 0}, SHARE, 1, 0);
        pair(1, new int[] {}, new int[] {DROP, 1, 0}, MERGE, 0, 1);
        threeAtOnce();
        lesserCodeElsewhere();
    }

    private static void pair(int least, int[] before, int[] choice, int... last) {
        for (boolean onOne : new boolean[] {true, false}) {
            TypestateChecker x = Kit.file(before);
            // Object 1 is of a class without methods, so a local that changes to it changes the fault.
            x.setClass(1, 1);
            Kit.append(x, IF, 0, 0);
            if (!onOne) Kit.append(x, ELSE, 0, 0);
            Kit.append(x, choice);
            Kit.append(x, END, 0, 0);
            Kit.append(x, last);
            due.is("faultPc() of two faults in one statement", x.faultPc(), x.length() - 1);
            due.is("faultKind() of two faults in one statement", x.faultKind(), least);
        }
    }

    private static void threeAtOnce() {
        TypestateChecker x = Kit.file(IF, 0, 0, CALL, 0, 0, END, 0, 0, IF, 0, 0, SHARE, 2, 0, END, 0, 0, CALL, 0, 0);
        due.is("faultPc() with state or permission", x.faultPc(), 6);
        due.is("faultKind() with state or permission", x.faultKind(), TypestateChecker.F_STATE);
        Kit.program(x, IF, 0, 0, CALL, 0, 0, END, 0, 0, IF, 0, 0, SHARE, 2, 0, END, 0, 0, IF, 0, 0, DROP, 0, 0, END, 0, 0,
            CALL, 0, 0);
        due.is("faultPc() with null besides", x.faultPc(), 9);
        due.is("faultKind() with null besides", x.faultKind(), TypestateChecker.F_NULL);
        // State, permission and null again, in the second round of a loop.
        due.is("faultKind() far away", Far.faultBehindMany().faultKind(), TypestateChecker.F_NULL);
    }

    private static void lesserCodeElsewhere() {
        TypestateChecker x = Kit.with(IF, 0, 0, MERGE, 0, 1, ELSE, 0, 0, CALL, 2, 0, END, 0, 0);
        due.is("faultKind() with a lesser code at a greater index", x.faultKind(), TypestateChecker.F_MERGE);
        TypestateChecker y = Kit.with(IFIN, 0, 1, CALL, 2, 0, END, 0, 0, SHARE, 1, 0);
        due.is("faultKind() with a lesser code where nothing comes", y.faultKind(), TypestateChecker.F_OCCUPIED);
    }
}

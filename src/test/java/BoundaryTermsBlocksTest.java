/** The term 'Well-formed', sentence by sentence, and over all short programs against the same told as a grammar. */
public final class BoundaryTermsBlocksTest {
    private static final Section section = new Section("BoundaryTermsBlocksTest", "**Well-formed.**", "**Step.**");
    private static final Due due = section.due;
    private static final int IF = Kit.IF, ELSE = Kit.ELSE, END = Kit.END, LOOP = Kit.LOOP, DROP = Kit.DROP,
        IFIN = Kit.IFIN;
    private static final int[] OPENERS = {IF, IFIN, LOOP};

    public static void main(String[] args) {
        section.sentence("The program is well-formed iff this scan succeeds: go through the statements in order with a stack "
            + "of open blocks;", BoundaryTermsBlocksTest::allShortPrograms);
        section.sentence("IF, IFIN and LOOP push a block;", BoundaryTermsBlocksTest::push);
        section.sentence("ELSE requires the top block to be an IF or IFIN block without an ELSE yet and marks it (that ELSE "
            + "is the block's ELSE);", BoundaryTermsBlocksTest::elseRule);
        section.sentence("END requires a non-empty stack and pops (that END is the block's END);",
            BoundaryTermsBlocksTest::endRule);
        section.sentence("at the end the stack must be empty.", BoundaryTermsBlocksTest::emptyAtTheEnd);
        section.sentence("Otherwise the program is malformed.", BoundaryTermsBlocksTest::malformed);
        section.sentence("The empty program is well-formed.", BoundaryTermsBlocksTest::emptyProgram);
        section.end();
    }

    /** Every face of the class that asks for well-formedness gives the same answer. */
    private static void is(String what, boolean wellFormed, TypestateChecker x) {
        due.is("check() calls " + what + " malformed", x.check() == TypestateChecker.MALFORMED, !wellFormed);
        due.is("run calls " + what + " malformed", x.run(0, 0) == TypestateChecker.MALFORMED, !wellFormed);
        due.is("stateSet(0, 0) of " + what + " is not 0", x.stateSet(0, 0) != 0, wellFormed);
        due.is("localSet(0, 0) of " + what + " is not 0", x.localSet(0, 0) != 0, wellFormed);
        if (!wellFormed) due.is("faultPc() of " + what, x.faultPc(), -1);
        if (!wellFormed) due.is("faultKind() of " + what, x.faultKind(), -1);
    }

    private static void allShortPrograms() {
        int[] kinds = {DROP, IF, IFIN, LOOP, ELSE, END};
        int programs = 1;
        TypestateChecker x = new TypestateChecker(8);
        for (int length = 0; length <= 6; length++) {
            for (int number = 0; number < programs; number++) {
                int[] ops = new int[length];
                for (int i = 0, rest = number; i < length; i++, rest /= 6) ops[i] = kinds[rest % 6];
                x.clear();
                for (int op : ops) x.add(op, 0, 0);
                boolean wellFormed = statements(ops, 0) == length;
                due.is("check() calls " + java.util.Arrays.toString(ops) + " malformed",
                    x.check() == TypestateChecker.MALFORMED, !wellFormed);
            }
            programs *= 6;
        }
    }

    /** Where the statements and whole blocks that begin at from come to an end; the length, if all is well-formed. */
    private static int statements(int[] ops, int from) {
        int at = from;
        while (at < ops.length && ops[at] != ELSE && ops[at] != END) {
            int next = ops[at] == DROP ? at + 1 : block(ops, at);
            if (next < 0) return -1;
            at = next;
        }
        return at;
    }

    private static int block(int[] ops, int from) {
        int at = statements(ops, from + 1);
        if (at >= 0 && at < ops.length && ops[at] == ELSE && ops[from] != LOOP) at = statements(ops, at + 1);
        return at >= 0 && at < ops.length && ops[at] == END ? at + 1 : -1;
    }

    private static void push() {
        for (int op : OPENERS) {
            for (int depth = 1; depth <= 8; depth++) {
                TypestateChecker x = Kit.with(Programs.repeat(depth, op, 0, 0));
                for (int ends = 0; ends < depth; ends++) {
                    is(depth + " of " + op + " with " + ends + " END", false, x);
                    x.add(END, 0, 0);
                }
                is(depth + " of " + op + " with as many END", true, x);
            }
            // Even a stack that takes up the whole program does no harm.
            for (int depth = 9; depth <= 16; depth++)
                is(depth + " of " + op, false, Kit.with(Programs.repeat(depth, op, 0, 0)));
        }
        for (int op : new int[] {Kit.CALL, Kit.SHARE, Kit.MERGE, DROP}) {
            is(op + " alone", true, Kit.with(op, 0, 1));
            is(op + " and END", false, Kit.with(op, 0, 1, END, 0, 0));
            is(op + " and ELSE", false, Kit.with(op, 0, 1, ELSE, 0, 0));
        }
    }

    private static void elseRule() {
        is("ELSE with no block", false, Kit.with(ELSE, 0, 0));
        is("ELSE with no block before one", false, Kit.with(ELSE, 0, 0, IF, 0, 0, END, 0, 0));
        for (int op : OPENERS) {
            boolean may = op != LOOP;
            is("ELSE in " + op, may, Kit.with(op, 0, 0, ELSE, 0, 0, END, 0, 0));
            is("ELSE twice in " + op, false, Kit.with(op, 0, 0, ELSE, 0, 0, ELSE, 0, 0, END, 0, 0));
            is("ELSE twice in " + op + ", apart", false,
                Kit.with(op, 0, 0, ELSE, 0, 0, IF, 0, 0, END, 0, 0, ELSE, 0, 0, END, 0, 0));
            is("ELSE after " + op + " is closed", false, Kit.with(op, 0, 0, END, 0, 0, ELSE, 0, 0));
            for (int outer : OPENERS) {
                is("ELSE in " + op + " within " + outer, may,
                    Kit.with(outer, 0, 0, op, 0, 0, ELSE, 0, 0, END, 0, 0, END, 0, 0));
                is("ELSE in " + outer + " behind " + op, outer != LOOP,
                    Kit.with(outer, 0, 0, op, 0, 0, END, 0, 0, ELSE, 0, 0, END, 0, 0));
                is("ELSE in both", may && outer != LOOP,
                    Kit.with(outer, 0, 0, op, 0, 0, ELSE, 0, 0, END, 0, 0, ELSE, 0, 0, END, 0, 0));
            }
        }
        ownElse();
    }

    /** Each IF jumps to its own ELSE, the inner to the inner one and the outer to the outer one. */
    private static void ownElse() {
        TypestateChecker x = Kit.with(IF, 0, 0, IF, 0, 0, ELSE, 0, 0, DROP, 0, 0, END, 0, 0, ELSE, 0, 0, DROP, 1, 0,
            END, 0, 0);
        x.run(0, 1);
        due.is("machinePc() past the outer ELSE", x.machinePc(), 6);
        x.run(1, 2);
        due.is("machinePc() past the inner ELSE", x.machinePc(), 3);
        TypestateChecker first = Kit.with(IF, 0, 0, IF, 0, 0, END, 0, 0, ELSE, 0, 0, END, 0, 0);
        first.run(1, 2);
        due.is("machinePc() of an inner IF that has no ELSE", first.machinePc(), 3);
        first.run(0, 1);
        due.is("machinePc() of the outer IF that has one", first.machinePc(), 4);
        // An ELSE that stood at this index before, in a program since cleared, is no ELSE of this block.
        first.clear();
        Kit.append(first, IF, 0, 0, DROP, 2, 0, END, 0, 0, DROP, 2, 0, DROP, 2, 0);
        first.run(0, 1);
        due.is("machinePc() of an IF without ELSE in the next program", first.machinePc(), 3);
    }

    private static void endRule() {
        is("END with no block", false, Kit.with(END, 0, 0));
        is("END before its block", false, Kit.with(END, 0, 0, IF, 0, 0));
        for (int op : OPENERS) {
            is("END once in " + op, true, Kit.with(op, 0, 0, END, 0, 0));
            is("END twice in " + op, false, Kit.with(op, 0, 0, END, 0, 0, END, 0, 0));
            is("END twice in " + op + ", another block behind", false,
                Kit.with(op, 0, 0, END, 0, 0, END, 0, 0, op, 0, 0));
            is("two blocks of " + op, true, Kit.with(op, 0, 0, END, 0, 0, op, 0, 0, END, 0, 0));
        }
        TypestateChecker x = Kit.with(LOOP, 0, 0, LOOP, 0, 0, DROP, 2, 0, END, 0, 0, DROP, 2, 0, END, 0, 0);
        x.run(1, 2);
        due.is("machinePc() past the inner END", x.machinePc(), 4);
        x.run(0, 1);
        due.is("machinePc() past the outer END", x.machinePc(), 6);
    }

    private static void emptyAtTheEnd() {
        for (int op : OPENERS) {
            TypestateChecker x = Kit.with(Programs.repeat(15, DROP, 2, 0));
            is("fifteen drops", true, x);
            x.add(op, 0, 0);
            is("fifteen drops and " + op, false, x);
            TypestateChecker y = Kit.with(Programs.repeat(14, DROP, 2, 0));
            Kit.append(y, op, 0, 0);
            is("fourteen drops and " + op, false, y);
            Kit.append(y, END, 0, 0);
            is("fourteen drops, " + op + " and END", true, y);
            is("an open ELSE of " + op, false, Kit.with(op, 0, 0, ELSE, 0, 0));
        }
        is("eight blocks in each other", true,
            Kit.with(Programs.join(Programs.repeat(8, LOOP, 0, 0), Programs.repeat(8, END, 0, 0))));
    }

    private static void malformed() {
        for (int[] statements : Programs.MALFORMED) is("a malformed program", false, Kit.file(statements));
        for (int[] statements : Programs.ACCEPTED) is("an accepted program", true, Kit.file(statements));
        for (int[] statements : Programs.REJECTED) is("a rejected program", true, Kit.file(statements));
    }

    private static void emptyProgram() {
        is("a new object", true, new TypestateChecker(8));
        for (Situations.Situation s : Situations.ALL) {
            TypestateChecker x = s.make().get();
            x.clear();
            is(s.name() + " when cleared", true, x);
            due.is("check() of it", x.check(), TypestateChecker.ACCEPTED);
        }
    }
}

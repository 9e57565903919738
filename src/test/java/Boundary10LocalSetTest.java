/** Promise 10, sentence by sentence: the edges of pc and l for each length, each bit, and points that nothing reaches. */
public final class Boundary10LocalSetTest {
    private static final Section section =
        new Section("Boundary10LocalSetTest", "## Promise 10: Possible local values", "## ");
    private static final Due due = section.due;
    private static final int IF = Kit.IF, ELSE = Kit.ELSE, END = Kit.END, LOOP = Kit.LOOP, CALL = Kit.CALL,
        SHARE = Kit.SHARE, MERGE = Kit.MERGE, DROP = Kit.DROP, IFIN = Kit.IFIN;
    private static final int NULL = 1, HALF0 = 2, FULL0 = 4, HALF1 = 8, FULL1 = 16;
    private static final int[] START = {FULL0, FULL1, NULL};

    public static void main(String[] args) {
        section.sentence("`localSet(pc, l)` answers 0 if the program is malformed,", Boundary10LocalSetTest::malformed);
        section.sentence("pc is not in 0..length,", Boundary10LocalSetTest::pcEdges);
        section.sentence("or l is not in 0..2.", Boundary10LocalSetTest::localEdges);
        section.sentence("Otherwise it answers a bit set of local values: bit 0 = null,", () -> bit(NULL));
        section.sentence("bit 1 = object 0 with HALF,", () -> bit(HALF0));
        section.sentence("bit 2 = object 0 with FULL,", () -> bit(FULL0));
        section.sentence("bit 3 = object 1 with HALF,", () -> bit(HALF1));
        section.sentence("bit 4 = object 1 with FULL.", () -> bit(FULL1));
        section.sentence("A bit is set iff some reachable configuration with this pc has local l of that value.",
            Boundary10LocalSetTest::iff);
        section.sentence("It answers 0 if no reachable configuration has this pc.", Boundary10LocalSetTest::unreached);
        section.sentence("pc equal to length is allowed.", Boundary10LocalSetTest::ended);
        section.sentence("It changes nothing.", () -> Situations.ask(due, "localSet", x -> {
            for (int pc : Kit.around(0, 16)) for (int l = -1; l <= 3; l++) x.localSet(pc, l);
        }));
        section.end();
    }

    private static void is(String what, TypestateChecker x, int pc, int l, int want) {
        due.is("localSet(" + pc + ", " + l + ") of " + what, x.localSet(pc, l), want);
    }

    private static void malformed() {
        for (int[] statements : Programs.MALFORMED) {
            TypestateChecker x = Kit.file(statements);
            for (int pc = -1; pc <= 17; pc++) for (int l = -1; l <= 3; l++) is("a malformed program", x, pc, l, 0);
        }
        TypestateChecker x = Kit.with(SHARE, 2, 0, IF, 0, 0);
        is("an open IF", x, 0, 0, 0);
        is("an open IF", x, 1, 2, 0);
        x.add(END, 0, 0);
        is("a closed IF", x, 0, 0, FULL0);
        is("a closed IF", x, 1, 2, HALF0);
        x.add(ELSE, 0, 0);
        is("an ELSE too many", x, 1, 2, 0);
    }

    private static void pcEdges() {
        TypestateChecker x = new TypestateChecker(16);
        for (int length = 0; length <= 16; length++) {
            for (int l = 0; l <= 2; l++) {
                for (int pc : Kit.outside(0, length)) is(length + " statements", x, pc, l, 0);
                for (int pc = 0; pc <= length; pc++) is(length + " statements", x, pc, l, START[l]);
            }
            x.add(DROP, 2, 0);
        }
        x.clear();
        for (int l = 0; l <= 2; l++) {
            is("the cleared program", x, 0, l, START[l]);
            for (int pc = 1; pc <= 17; pc++) is("the cleared program", x, pc, l, 0);
        }
    }

    private static void localEdges() {
        TypestateChecker x = Kit.with(SHARE, 2, 1, DROP, 0, 0);
        for (int pc = -1; pc <= 3; pc++) for (int l : Kit.outside(0, 2)) is("two statements", x, pc, l, 0);
        is("two statements", x, 2, 0, NULL);
        is("two statements", x, 2, 1, HALF1);
        is("two statements", x, 2, 2, HALF1);
    }

    /** Each local is brought to the value alone, and to the value or what it was before. */
    private static void bit(int value) {
        for (int l = 0; l < 3; l++) {
            int[] way = way(l, value);
            TypestateChecker x = Kit.with(way);
            due.is("check() of a way to the value", x.check(), TypestateChecker.ACCEPTED);
            is("a way to the value", x, x.length(), l, value);
            is("a way to the value", x, 0, l, START[l]);
            Kit.program(x, IF, 0, 0);
            Kit.append(x, way);
            Kit.append(x, END, 0, 0);
            is("a way to the value or none", x, x.length(), l, value | START[l]);
        }
    }

    private static int[] way(int l, int value) {
        if (value == START[l]) return new int[] {};
        if (value == NULL) return new int[] {DROP, l, 0};
        int owner = value == HALF0 || value == FULL0 ? 0 : 1;
        if (l == owner) return new int[] {SHARE, 2, l};
        if (value == HALF0 || value == HALF1) return new int[] {DROP, l, 0, SHARE, l, owner};
        return new int[] {DROP, l, 0, SHARE, l, owner, MERGE, l, owner};
    }

    private static void iff() {
        TypestateChecker x = Kit.with(IF, 0, 0, SHARE, 2, 0, IF, 0, 0, MERGE, 2, 0, END, 0, 0, ELSE, 0, 0, IF, 0, 0,
            SHARE, 2, 1, IF, 0, 0, MERGE, 2, 1, END, 0, 0, END, 0, 0, END, 0, 0);
        int[][] want = {{4, 4, 2, 2, 1, 3, 4, 4, 4, 4, 4, 4, 4, 7}, {16, 16, 16, 16, 16, 16, 16, 16, 8, 8, 1, 9, 25, 25},
            {1, 1, 2, 2, 4, 6, 1, 1, 8, 8, 16, 24, 25, 31}};
        for (int l = 0; l < 3; l++)
            for (int pc = 0; pc < 14; pc++) is("a program through all values", x, pc, l, want[l][pc]);
        // What one local may be does not mix with what another may be on another way.
        TypestateChecker apart = Kit.with(IF, 0, 0, DROP, 0, 0, ELSE, 0, 0, DROP, 1, 0, END, 0, 0, SHARE, 2, 0);
        is("two ways apart", apart, 5, 0, NULL | FULL0);
        is("two ways apart", apart, 5, 1, NULL | FULL1);
        is("two ways apart", apart, 6, 0, HALF0);
        is("two ways apart", apart, 6, 1, NULL);
        is("a value behind 376 configurations", Far.local(), 6, 2, NULL | HALF0 | HALF1);
        is("a value behind 376 configurations", Far.local(), 7, 2, HALF0 | HALF1);
    }

    private static void unreached() {
        int[][] programs = {{DROP, 0, 0, SHARE, 2, 0, DROP, 1, 0}, {CALL, 2, 0},
            {IFIN, 0, 1, DROP, 0, 0, ELSE, 0, 0, DROP, 1, 0, END, 0, 0},
            {IFIN, 0, 0, DROP, 0, 0, ELSE, 0, 0, DROP, 1, 0, END, 0, 0}, {LOOP, 0, 0, MERGE, 0, 1, END, 0, 0}};
        int[][] reached = {{1, 1, 0, 0}, {1, 0}, {1, 0, 0, 1, 1, 1}, {1, 1, 1, 0, 0, 1}, {1, 1, 0, 1}};
        for (int i = 0; i < programs.length; i++) {
            TypestateChecker x = Kit.with(programs[i]);
            for (int pc = 0; pc < reached[i].length; pc++) {
                for (int l = 0; l < 3; l++)
                    due.is("localSet(" + pc + ", " + l + ") of program " + i + " is not 0", x.localSet(pc, l) != 0,
                        reached[i][pc] == 1);
            }
        }
    }

    private static void ended() {
        for (int l = 0; l < 3; l++) is("the empty program", new TypestateChecker(8), 0, l, START[l]);
        for (int length = 1; length <= 16; length++) {
            TypestateChecker x = Kit.with(Programs.repeat(length - 1, DROP, 2, 0));
            x.add(SHARE, 2, 1);
            is("a share as the last of " + length, x, length - 1, 2, NULL);
            is("a share as the last of " + length, x, length, 2, HALF1);
            is("a share as the last of " + length, x, length, 1, HALF1);
            is("a share as the last of " + length, x, length + 1, 2, 0);
        }
        TypestateChecker part = Kit.with(IF, 0, 0, DROP, 0, 0, END, 0, 0, SHARE, 2, 0);
        is("an end that one way reaches", part, 3, 0, NULL | FULL0);
        is("an end that one way reaches", part, 4, 0, HALF0);
    }
}

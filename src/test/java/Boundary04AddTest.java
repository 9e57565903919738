import java.util.ArrayList;
import java.util.List;

/** Promise 4, sentence by sentence: a full program, and the edges of the kind and of each operand. */
public final class Boundary04AddTest {
    private static final Section section = new Section("Boundary04AddTest", "## Promise 4: Appending a statement", "## ");
    private static final Due due = section.due;

    public static void main(String[] args) {
        section.sentence("`add(op, a, b)` appends the statement (op, a, b) to the program.", Boundary04AddTest::appends);
        section.sentence("It is refused, answering -1 with nothing changed, if the program already holds CAP statements,",
            Boundary04AddTest::full);
        section.sentence("or op is not in 1..9,", Boundary04AddTest::kinds);
        section.sentence("or an operand named for op is out of range:", Boundary04AddTest::eachKindsOperands);
        section.sentence("CALL needs a in 0..2 and b in 0..3;", () -> operands(Kit.CALL, 3));
        section.sentence("SHARE and MERGE need a and b in 0..2 and a != b;", () -> {
            operands(Kit.SHARE, 2);
            operands(Kit.MERGE, 2);
        });
        section.sentence("DROP needs a in 0..2 (b is ignored);", () -> operands(Kit.DROP, 2));
        section.sentence("IFIN needs a in 0..2 and b in 0..3;", () -> operands(Kit.IFIN, 3));
        section.sentence("IF, ELSE, LOOP and END name no operands, so any a and b are accepted for them.",
            Boundary04AddTest::noOperands);
        section.sentence("Otherwise the statement is appended and the answer is its index, which equals the length before "
            + "the call.", Boundary04AddTest::index);
        section.sentence("Well-formedness is not tested here: a statement that leaves the program malformed is still "
            + "appended.", Boundary04AddTest::malformed);
        section.sentence("The machine is not changed, nor are the protocol and the classes.", Boundary04AddTest::nothingElse);
        section.end();
    }

    private static Situations.Call call(int op, int a, int b) {
        return new Situations.Call("add(" + op + ", " + a + ", " + b + ")", x -> x.add(op, a, b));
    }

    private static boolean isDue(int op, int a, int b) {
        if (op == Kit.CALL || op == Kit.IFIN) return Kit.in(0, a, 2) && Kit.in(0, b, 3);
        if (op == Kit.SHARE || op == Kit.MERGE) return Kit.in(0, a, 2) && Kit.in(0, b, 2) && a != b;
        if (op == Kit.DROP) return Kit.in(0, a, 2);
        return Kit.in(1, op, 9);
    }

    /** Every statement that may be appended does afterwards what the document tells of it, by the second model. */
    private static void appends() {
        for (int op = 1; op <= 9; op++)
            for (int a = 0; a < 3; a++)
                for (int b = 0; b < 4; b++) if (isDue(op, a, b)) doesItsWork(op, a, b);
    }

    private static void doesItsWork(int op, int a, int b) {
        for (int before = 0; before < 3; before++) {
            TypestateChecker x = new TypestateChecker(16);
            Model y = new Model(16);
            for (int m = 0; m < 4; m++) {
                x.declare(0, m, 0, 3 - m);
                y.declare(0, m, 0, 3 - m);
            }
            if (op == Kit.ELSE || op == Kit.END) both(x, y, before == 0 ? Kit.IF : Kit.LOOP, 0, 0);
            if (before == 1) both(x, y, Kit.SHARE, 2, 0);
            if (before == 2) both(x, y, Kit.DROP, 1, 0);
            both(x, y, op, a, b);
            if (op == Kit.IF || op == Kit.IFIN || op == Kit.LOOP || op == Kit.ELSE) both(x, y, Kit.END, 0, 0);
            both(x, y, Kit.DROP, 2, 0);
            String what = call(op, a, b).name();
            due.is("the checker after " + what, Kit.checker(x), y.checker());
            for (int choices = 0; choices < 4; choices++) {
                due.is("run after " + what, x.run(choices, 20), y.run(choices, 20));
                due.is("the machine after " + what, Kit.machine(x), y.machine());
            }
        }
    }

    private static void both(TypestateChecker x, Model y, int op, int a, int b) {
        due.is(call(op, a, b).name(), x.add(op, a, b), y.add(op, a, b));
    }

    private static void full() {
        for (int given : new int[] {0, 7, 8, 9, 10, 11, 12, 13, 14, 15, 16, 17, 99}) {
            int cap = given < 8 ? 8 : given > 16 ? 16 : given;
            TypestateChecker x = new TypestateChecker(given);
            for (int i = 0; i < cap - 1; i++) due.is("cap " + cap + ", add", x.add(Kit.DROP, i % 3, 0), i);
            due.is("cap " + cap + ", the last place", x.add(Kit.CALL, 0, 0), cap - 1);
            x.run(0, 3);
            String before = Kit.everything(x);
            for (int op = -1; op <= 11; op++) {
                for (int a = 0; a < 3; a++) {
                    due.is("cap " + cap + ", " + call(op, a, 0).name() + " when full", x.add(op, a, 0), -1);
                    due.is("cap " + cap + " after the refusal", Kit.everything(x), before);
                }
            }
            x.clear();
            due.is("cap " + cap + ", the first place again", x.add(Kit.CALL, 0, 0), 0);
        }
        fullIsWhole();
    }

    /** In the two full situations every statement, right or wrong, is refused and leaves the whole as it was. */
    private static void fullIsWhole() {
        for (Situations.Situation s : Situations.ALL) {
            TypestateChecker x = s.make().get();
            if (x.add(Kit.DROP, 0, 0) >= 0) continue;
            Situations.same(due, s.name() + " that is full, after refusals", s.make(), y -> {
                for (int op = 0; op <= 10; op++)
                    for (int a = 0; a < 3; a++) due.is(call(op, a, 1).name() + " when full", y.add(op, a, 1), -1);
            });
        }
    }

    private static void kinds() {
        List<Situations.Call> refused = new ArrayList<>();
        for (int op : Kit.outside(1, 9)) {
            refused.add(call(op, 0, 1));
            refused.add(call(op, 0, 0));
            refused.add(call(op, 99, -99));
        }
        Situations.refuse(due, -1, refused);
        for (int op = 1; op <= 9; op++) due.is(call(op, 0, 1).name(), new TypestateChecker(8).add(op, 0, 1), 0);
        due.is("add(0, 0, 1)", new TypestateChecker(8).add(0, 0, 1), -1);
        due.is("add(10, 0, 1)", new TypestateChecker(8).add(10, 0, 1), -1);
    }

    /** Which operands a kind names: a wrong one is refused there and taken everywhere else. */
    private static void eachKindsOperands() {
        boolean[] namesA = {false, true, true, true, true, false, true, false, false, false};
        boolean[] namesB = {false, true, true, true, false, false, true, false, false, false};
        for (int op = 1; op <= 9; op++) {
            for (int wrong : new int[] {Integer.MIN_VALUE, -1, 4, Integer.MAX_VALUE}) {
                due.is(call(op, wrong, 1).name(), new TypestateChecker(8).add(op, wrong, 1), namesA[op] ? -1 : 0);
                due.is(call(op, 0, wrong).name(), new TypestateChecker(8).add(op, 0, wrong), namesB[op] ? -1 : 0);
            }
        }
    }

    /** All pairs of operands in and around their ranges: the right ones are taken, the wrong ones change nothing. */
    private static void operands(int op, int lastB) {
        List<Situations.Call> refused = new ArrayList<>();
        for (int a : Kit.around(0, 2)) {
            for (int b : Kit.around(0, lastB)) {
                if (!isDue(op, a, b)) {
                    refused.add(call(op, a, b));
                    continue;
                }
                for (Situations.Situation s : Situations.ALL) {
                    TypestateChecker x = s.make().get();
                    int length = x.length();
                    boolean room = length < Whole.capacity(s.make().get());
                    due.is(call(op, a, b).name() + " on " + s.name(), x.add(op, a, b), room ? length : -1);
                    due.is("length() after it", x.length(), room ? length + 1 : length);
                }
            }
        }
        Situations.refuse(due, -1, refused);
    }

    private static void noOperands() {
        int[] any = {Integer.MIN_VALUE, -65536, -1, 0, 1, 2, 3, 4, 5, 16, 17, 256, Integer.MAX_VALUE};
        TypestateChecker x = new TypestateChecker(16);
        for (int op : new int[] {Kit.IF, Kit.ELSE, Kit.LOOP, Kit.END}) {
            for (int a : any) {
                for (int b : any) {
                    if (x.length() == 16) x.clear();
                    int length = x.length();
                    due.is(call(op, a, b).name(), x.add(op, a, b), length);
                    due.is("length() after " + call(op, a, b).name(), x.length(), length + 1);
                }
            }
        }
    }

    private static void index() {
        for (int cap = 8; cap <= 16; cap++) {
            TypestateChecker x = new TypestateChecker(cap);
            for (int round = 0; round < 2; round++) {
                for (int i = 0; i < cap; i++) {
                    due.is("length() before", x.length(), i);
                    due.is("a refused statement between", x.add(Kit.CALL, 3, 0), -1);
                    due.is("the index", x.add(1 + (i + round) % 9, 0, 1), i);
                    due.is("length() after", x.length(), i + 1);
                }
                x.clear();
            }
        }
    }

    private static void malformed() {
        for (int[] statements : Programs.MALFORMED) {
            TypestateChecker x = new TypestateChecker(16);
            for (int i = 0; i < statements.length; i += 3)
                due.is("a statement of a malformed program",
                    x.add(statements[i], statements[i + 1], statements[i + 2]), i / 3);
            due.is("length()", x.length(), statements.length / 3);
            due.is("check()", x.check(), TypestateChecker.MALFORMED);
        }
        TypestateChecker x = new TypestateChecker(8);
        x.add(Kit.END, 0, 0);
        due.is("a good statement after a bad one", x.add(Kit.DROP, 0, 0), 1);
    }

    private static void nothingElse() {
        for (int classes = 0; classes < 4; classes++) {
            int c0 = classes & 1, c1 = classes >> 1;
            TypestateChecker x = Whole.allCalled(c0, c1);
            due.is("eight methods declared before eight calls", Kit.checker(x), Whole.allAccepted(c0, c1));
            due.is("the machine that has not run", Kit.machine(x), Kit.INITIAL_MACHINE);
        }
        for (Situations.Situation s : Situations.ALL) {
            TypestateChecker x = s.make().get();
            String machine = Kit.machine(x);
            String protocol = Whole.protocol(s.make());
            for (int op = 1; op <= 9; op++) {
                int kind = op;
                x.add(op, 0, 1);
                due.is("the machine of " + s.name() + " after add(" + op + ", 0, 1)", Kit.machine(x), machine);
                due.is("the protocol of " + s.name() + " after add(" + op + ", 0, 1)",
                    Whole.protocol(Situations.after(s.make(), y -> y.add(kind, 0, 1))), protocol);
            }
        }
    }
}

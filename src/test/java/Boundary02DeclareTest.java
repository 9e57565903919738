import java.util.ArrayList;
import java.util.List;
import java.util.function.Supplier;

/** Promise 2, sentence by sentence: the edges of the four arguments, and all that declaring leaves alone. */
public final class Boundary02DeclareTest {
    private static final Section section = new Section("Boundary02DeclareTest", "## Promise 2: Declaring a method", "## ");
    private static final Due due = section.due;

    public static void main(String[] args) {
        section.sentence("`declare(cls, m, req, res)` is refused, answering false with nothing changed, unless cls is in 0..1,",
            () -> edges(0, 1));
        section.sentence("m in 0..3,", () -> edges(1, 3));
        section.sentence("req in 0..3", () -> edges(2, 3));
        section.sentence("and res in 0..3.", () -> edges(3, 3));
        section.sentence("Otherwise method m of class cls becomes declared with required state req and resulting state res,",
            Boundary02DeclareTest::everyDeclaration);
        section.sentence("replacing any earlier declaration of that method of that class,", Boundary02DeclareTest::replaces);
        section.sentence("and the answer is true.", Boundary02DeclareTest::answersTrue);
        section.sentence("req and res may be equal.", Boundary02DeclareTest::equalStates);
        section.sentence("Nothing else changes: other declarations, the classes of the objects, the program and the machine "
            + "stay as they were.", Boundary02DeclareTest::nothingElse);
        section.end();
    }

    private static Situations.Call call(int[] v) {
        return new Situations.Call("declare(" + v[0] + ", " + v[1] + ", " + v[2] + ", " + v[3] + ")",
            x -> x.declare(v[0], v[1], v[2], v[3]) ? 1 : 0);
    }

    /** One argument goes through its edges while the others stand at each end of theirs. */
    private static void edges(int which, int last) {
        List<Situations.Call> refused = new ArrayList<>();
        for (int ends = 0; ends < 16; ends++) {
            for (int v : Kit.around(0, last)) {
                int[] given = {ends & 1, (ends >> 1 & 1) * 3, (ends >> 2 & 1) * 3, (ends >> 3 & 1) * 3};
                given[which] = v;
                if (!Kit.in(0, v, last)) refused.add(call(given));
                else taken(given);
            }
        }
        Situations.refuse(due, 0, refused);
        bothWrong(which);
    }

    private static void taken(int[] v) {
        TypestateChecker x = new TypestateChecker(8);
        due.is(call(v).name(), call(v).answer().applyAsInt(x), 1);
        due.is("after " + call(v).name(), declared(() -> new TypestateChecker(8), v), v[2] + ">" + v[3]);
    }

    private static void bothWrong(int which) {
        List<Situations.Call> refused = new ArrayList<>();
        for (int other = 0; other < 4; other++) {
            int[] given = {0, 0, 0, 0};
            given[other] = -1;
            given[which] = 4;
            refused.add(call(given));
        }
        Situations.refuse(due, 0, refused);
    }

    private static String declared(Supplier<TypestateChecker> make, int[] v) {
        return Whole.declaration(Situations.after(make, x -> x.declare(v[0], v[1], v[2], v[3])), v[0], v[1]);
    }

    private static void everyDeclaration() {
        for (int i = 0; i < 128; i++) {
            int[] v = {i >> 6, i >> 4 & 3, i >> 2 & 3, i & 3};
            due.is("after " + call(v).name(), declared(() -> new TypestateChecker(8), v), v[2] + ">" + v[3]);
        }
    }

    private static void replaces() {
        for (int i = 0; i < 128; i++) {
            int[] v = {i >> 6, i >> 4 & 3, i >> 2 & 3, i & 3};
            due.is("after another declaration and " + call(v).name(), declared(() -> {
                TypestateChecker x = Situations.withinARun();
                x.declare(v[0], v[1], 3 - v[2], 3 - v[3]);
                x.declare(v[0], v[1], v[3], v[2]);
                return x;
            }, v), v[2] + ">" + v[3]);
        }
    }

    private static void answersTrue() {
        for (Situations.Situation s : Situations.ALL) {
            TypestateChecker x = s.make().get();
            for (int i = 0; i < 128; i++) {
                due.is("a declaration on " + s.name(), x.declare(i >> 6, i >> 4 & 3, i >> 2 & 3, i & 3), true);
                due.is("the same again", x.declare(i >> 6, i >> 4 & 3, i >> 2 & 3, i & 3), true);
            }
        }
    }

    private static void equalStates() {
        for (int state = 0; state < 4; state++) {
            for (int m = 0; m < 4; m++) {
                TypestateChecker x = new TypestateChecker(8);
                int other = (m + 1) % 4;
                x.declare(0, other, 0, state);
                due.is("declare(0, " + m + ", " + state + ", " + state + ")", x.declare(0, m, state, state), true);
                // A method that keeps the state needs no FULL permission.
                Kit.append(x, Kit.CALL, 0, other, Kit.SHARE, 2, 0, Kit.CALL, 2, m, Kit.CALL, 0, m);
                due.is("check()", x.check(), TypestateChecker.ACCEPTED);
                due.is("stateSet(4, 0)", x.stateSet(4, 0), 1 << state);
            }
        }
    }

    private static void nothingElse() {
        methodsNotCalled();
        for (Situations.Situation s : Situations.ALL) {
            for (int cls = 0; cls < 2; cls++)
                for (int m = 0; m < 4; m++) leavesTheRest(s, cls, m);
        }
    }

    /** The program calls m0 alone, which differs between the classes; declaring any other method shows nowhere. */
    private static void methodsNotCalled() {
        for (int classes = 0; classes < 4; classes++) {
            TypestateChecker x = Kit.with(Kit.CALL, 0, 0, Kit.LOOP, 0, 0, Kit.CALL, 1, 0, Kit.END, 0, 0, Kit.SHARE, 2, 0);
            x.declare(0, 0, 0, 2);
            x.declare(1, 0, 0, 3);
            x.setClass(0, classes & 1);
            x.setClass(1, classes >> 1);
            x.run(1, 3);
            String before = Kit.everything(x);
            for (int i = 0; i < 96; i++) {
                int cls = i / 48, m = 1 + i / 16 % 3;
                x.declare(cls, m, i >> 2 & 3, i & 3);
                due.is("the object after declaring method " + m + " of class " + cls, Kit.everything(x), before);
            }
        }
    }

    private static void leavesTheRest(Situations.Situation s, int cls, int m) {
        String what = s.name() + " after declare(" + cls + ", " + m + ", 3, 2)";
        Supplier<TypestateChecker> changed = Situations.after(s.make(), x -> x.declare(cls, m, 3, 2));
        for (int other = 0; other < 8; other++) {
            if (other == cls * 4 + m) continue;
            due.is(what + ", method " + other % 4 + " of class " + other / 4,
                Whole.declaration(changed, other / 4, other % 4), Whole.declaration(s.make(), other / 4, other % 4));
        }
        for (int obj = 0; obj < 2; obj++)
            due.is(what + ", the class of " + obj, Whole.classOf(changed.get(), obj), Whole.classOf(s.make().get(), obj));
        due.is(what + ", the machine", Kit.machine(changed.get()), Kit.machine(s.make().get()));
        due.is(what + ", the length", changed.get().length(), s.make().get().length());
        due.is(what + ", the capacity", Whole.capacity(changed.get()), Whole.capacity(s.make().get()));
        // With every method declared alike again, only a changed program could make a difference.
        due.is(what + ", the program", Kit.checker(alike(changed.get())), Kit.checker(alike(s.make().get())));
    }

    private static TypestateChecker alike(TypestateChecker x) {
        for (int i = 0; i < 8; i++) x.declare(i / 4, i % 4, i / 4, i % 4);
        return x;
    }
}

import java.util.ArrayList;
import java.util.List;
import java.util.function.Supplier;

/** Promise 3, sentence by sentence: the edges of both arguments, and all that setting a class leaves alone. */
public final class Boundary03SetClassTest {
    private static final Section section =
        new Section("Boundary03SetClassTest", "## Promise 3: Setting an object's class", "## ");
    private static final Due due = section.due;

    public static void main(String[] args) {
        section.sentence("`setClass(obj, cls)` is refused, answering false with nothing changed, unless obj is in 0..1",
            Boundary03SetClassTest::objectEdges);
        section.sentence("and cls is in 0..1.", Boundary03SetClassTest::classEdges);
        section.sentence("Otherwise object obj gets class cls and the answer is true.", Boundary03SetClassTest::gets);
        section.sentence("Nothing else changes: declarations, the other object's class, the program and the machine stay "
            + "as they were.", Boundary03SetClassTest::nothingElse);
        section.end();
    }

    private static Situations.Call call(int obj, int cls) {
        return new Situations.Call("setClass(" + obj + ", " + cls + ")", x -> x.setClass(obj, cls) ? 1 : 0);
    }

    private static void objectEdges() {
        List<Situations.Call> refused = new ArrayList<>();
        for (int obj : Kit.outside(0, 1)) {
            for (int cls = -1; cls <= 2; cls++) refused.add(call(obj, cls));
            refused.add(call(obj, obj));
        }
        Situations.refuse(due, 0, refused);
        for (int obj = 0; obj <= 1; obj++) taken(obj, 1);
    }

    private static void classEdges() {
        List<Situations.Call> refused = new ArrayList<>();
        for (int cls : Kit.outside(0, 1)) for (int obj = -1; obj <= 2; obj++) refused.add(call(obj, cls));
        Situations.refuse(due, 0, refused);
        for (int cls = 0; cls <= 1; cls++) taken(1, cls);
    }

    private static void taken(int obj, int cls) {
        TypestateChecker x = new TypestateChecker(8);
        due.is(call(obj, cls).name(), x.setClass(obj, cls), true);
        due.is("the class of object " + obj, Whole.classOf(x, obj), cls);
    }

    private static void gets() {
        for (Situations.Situation s : Situations.ALL) {
            for (int way = 0; way < 8; way++) {
                int obj = way & 1, first = way >> 1 & 1, then = way >> 2;
                TypestateChecker x = s.make().get();
                due.is(call(obj, first).name() + " on " + s.name(), x.setClass(obj, first), true);
                due.is(call(obj, then).name() + " after it", x.setClass(obj, then), true);
                due.is("the class of object " + obj + " after both", Whole.classOf(x, obj), then);
            }
        }
    }

    private static void nothingElse() {
        declarationsStay();
        for (Situations.Situation s : Situations.ALL)
            for (int way = 0; way < 4; way++) leavesTheRest(s, way & 1, way >> 1);
    }

    /** Every method of both classes is called; giving the objects the classes they have, or others and back, shows nowhere. */
    private static void declarationsStay() {
        TypestateChecker x = new TypestateChecker(16);
        for (int i = 0; i < 8; i++) {
            x.declare(i / 4, i % 4, i % 4, (i + 1) % 4);
            x.add(Kit.CALL, i / 4, i % 4);
        }
        x.setClass(1, 1);
        x.run(0, 6);
        String before = Kit.everything(x);
        due.is("check()", x.check(), TypestateChecker.ACCEPTED);
        for (int way = 0; way < 4; way++) {
            x.setClass(way & 1, way >> 1);
            x.setClass(0, 0);
            x.setClass(1, 1);
            due.is("the object with its classes set anew", Kit.everything(x), before);
        }
    }

    private static void leavesTheRest(Situations.Situation s, int obj, int cls) {
        String what = s.name() + " after " + call(obj, cls).name();
        Supplier<TypestateChecker> changed = Situations.after(s.make(), x -> x.setClass(obj, cls));
        for (int method = 0; method < 8; method++)
            due.is(what + ", method " + method % 4 + " of class " + method / 4,
                Whole.declaration(changed, method / 4, method % 4), Whole.declaration(s.make(), method / 4, method % 4));
        due.is(what + ", the other's class", Whole.classOf(changed.get(), 1 - obj),
            Whole.classOf(s.make().get(), 1 - obj));
        due.is(what + ", the machine", Kit.machine(changed.get()), Kit.machine(s.make().get()));
        due.is(what + ", the capacity", Whole.capacity(changed.get()), Whole.capacity(s.make().get()));
        int before = Whole.classOf(s.make().get(), obj);
        Situations.same(due, what + " and back", s.make(), x -> {
            x.setClass(obj, cls);
            x.setClass(obj, before);
        });
    }
}

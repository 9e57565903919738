import java.util.List;
import java.util.function.Consumer;
import java.util.function.Supplier;
import java.util.function.ToIntFunction;

/** Objects as they stand after some use, on which a call that must change nothing is tried. */
final class Situations {
    record Situation(String name, Supplier<TypestateChecker> make) {
    }

    /** A call told by its words; it answers a number, where true is 1 and false is 0. */
    record Call(String name, ToIntFunction<TypestateChecker> answer) {
    }

    static final List<Situation> ALL = List.of(
        new Situation("a new object", () -> new TypestateChecker(0)),
        new Situation("an object within a run", Situations::withinARun),
        new Situation("a full object after a fault", Situations::fullAfterAFault),
        new Situation("a malformed program after a run", Situations::malformed),
        new Situation("a cleared object", Situations::cleared),
        new Situation("sixteen statements", Situations::sixteen),
        new Situation("operands that are not 0", Situations::otherOperands));

    private Situations() {
    }

    static TypestateChecker withinARun() {
        TypestateChecker x = new TypestateChecker(12);
        protocol(x);
        x.setClass(1, 1);
        Kit.append(x, Kit.CALL, 0, 0, Kit.SHARE, 2, 0, Kit.LOOP, 7, 7, Kit.CALL, 2, 1, Kit.END, 0, 0,
            Kit.IFIN, 1, 0, Kit.DROP, 1, 9, Kit.ELSE, 0, 0, Kit.MERGE, 0, 2, Kit.END, 0, 0);
        x.run(3, 6);
        return x;
    }

    static TypestateChecker fullAfterAFault() {
        TypestateChecker x = new TypestateChecker(8);
        protocol(x);
        x.setClass(0, 1);
        Kit.append(x, Kit.CALL, 0, 1, Kit.DROP, 1, 0, Kit.SHARE, 1, 0, Kit.CALL, 1, 2, Kit.IF, 0, 0,
            Kit.DROP, 0, 0, Kit.END, 0, 0, Kit.DROP, 2, 0);
        x.run(0, 99);
        return x;
    }

    static TypestateChecker malformed() {
        TypestateChecker x = new TypestateChecker(9);
        protocol(x);
        Kit.append(x, Kit.CALL, 1, 0, Kit.SHARE, 2, 1, Kit.DROP, 0, 0);
        x.run(0, 99);
        // An END would mend it, and shows then that the rest is as it was.
        Kit.append(x, Kit.IF, 0, 0, Kit.DROP, 1, 0, Kit.ELSE, 0, 0);
        return x;
    }

    static TypestateChecker cleared() {
        TypestateChecker x = sixteen();
        x.setClass(0, 1);
        x.clear();
        return x;
    }

    static TypestateChecker sixteen() {
        TypestateChecker x = new TypestateChecker(99);
        protocol(x);
        Kit.append(x, Kit.LOOP, 0, 0, Kit.LOOP, 0, 0, Kit.CALL, 0, 0, Kit.CALL, 0, 2, Kit.END, 0, 0, Kit.IF, 0, 0,
            Kit.SHARE, 2, 1, Kit.MERGE, 1, 2, Kit.ELSE, 0, 0, Kit.IFIN, 0, 3, Kit.CALL, 2, 0, Kit.END, 0, 0,
            Kit.END, 0, 0, Kit.END, 0, 0, Kit.CALL, 0, 0, Kit.DROP, 0, 0);
        x.run(0x5a5a5a5b, 21);
        return x;
    }

    static TypestateChecker otherOperands() {
        TypestateChecker x = new TypestateChecker(10);
        protocol(x);
        x.setClass(1, 1);
        Kit.append(x, Kit.CALL, 1, 1, Kit.SHARE, 2, 1, Kit.MERGE, 2, 1, Kit.CALL, 2, 2, Kit.IFIN, 2, 3,
            Kit.DROP, 2, 3, Kit.END, 3, 3);
        x.run(0, 4);
        return x;
    }

    /** Class 0 is Kit.file's protocol; in class 1 three methods differ from it and one is declared more. */
    private static void protocol(TypestateChecker x) {
        x.declare(0, 0, 0, 1);
        x.declare(0, 1, 1, 1);
        x.declare(0, 2, 1, 0);
        x.declare(1, 1, 0, 2);
        x.declare(1, 2, 2, 3);
        x.declare(1, 3, 2, 2);
    }

    /** Each call answers what is due in every situation and changes nothing, alone and all in a row. */
    static void refuse(Due due, int want, List<Call> calls) {
        for (Situation s : ALL) {
            TypestateChecker x = s.make.get();
            String before = Kit.everything(x);
            for (Call c : calls) {
                due.is(c.name + " on " + s.name, c.answer.applyAsInt(x), want);
                due.is(s.name + " after " + c.name, Kit.everything(x), before);
            }
            same(due, s.name + " after " + calls.size() + " refused calls", s.make, y -> {
                for (Call c : calls) c.answer.applyAsInt(y);
            });
        }
    }

    /** The questions are asked twice in every situation and change nothing. */
    static void ask(Due due, String what, Consumer<TypestateChecker> questions) {
        for (Situation s : ALL) {
            TypestateChecker x = s.make.get();
            String before = Kit.everything(x);
            questions.accept(x);
            questions.accept(x);
            due.is(s.name + " after " + what, Kit.everything(x), before);
            same(due, s.name + " after " + what, s.make, questions);
        }
    }

    static void same(Due due, String what, Supplier<TypestateChecker> make, Consumer<TypestateChecker> call) {
        due.is("the whole of " + what, Whole.of(after(make, call)), Whole.of(make));
    }

    /** What make makes, with the call made on it. */
    static Supplier<TypestateChecker> after(Supplier<TypestateChecker> make, Consumer<TypestateChecker> call) {
        return () -> {
            TypestateChecker x = make.get();
            call.accept(x);
            return x;
        };
    }
}

import java.util.ArrayList;
import java.util.List;
import java.util.function.Consumer;
import java.util.function.ToIntFunction;

/** The section 'Not promised', sentence by sentence: what it leaves free, and the one thing that it asks all the same. */
public final class DocumentNotPromisedTest {
    private static final Section section = new Section("DocumentNotPromisedTest", "## Not promised", Section.LAST);
    private static final Due due = section.due;

    private record Question(String name, ToIntFunction<TypestateChecker> ask) {
    }

    private record Change(String name, Consumer<TypestateChecker> make) {
    }

    private static final List<Question> QUESTIONS = questions();
    private static final List<Change> CHANGES = changes();

    public static void main(String[] args) {
        section.free("How the checker covers all decision sequences, how results are stored, and the time and memory used "
            + "are free,");
        section.sentence("provided the answers are as described.", DocumentNotPromisedTest::asDescribed);
        section.free("Whether `check()`, `faultPc()`, `faultKind()`, `stateSet` and `localSet` recompute each time or reuse "
            + "earlier work is free,");
        section.sentence("as long as every answer reflects the current program, declarations and classes.",
            DocumentNotPromisedTest::current);
        section.free("Nothing is promised about methods not in the public face, about `toString`, `equals` or `hashCode`, "
            + "or about use from several threads at once.");
        section.end();
    }

    private static List<Question> questions() {
        List<Question> all = new ArrayList<>();
        all.add(new Question("check()", TypestateChecker::check));
        all.add(new Question("faultPc()", TypestateChecker::faultPc));
        all.add(new Question("faultKind()", TypestateChecker::faultKind));
        for (int at = 0; at <= 16; at += 2) {
            int pc = at;
            all.add(new Question("stateSet(" + pc + ", 0)", x -> x.stateSet(pc, 0)));
            all.add(new Question("stateSet(" + pc + ", 1)", x -> x.stateSet(pc, 1)));
            for (int l = 0; l < 3; l++) {
                int local = l;
                all.add(new Question("localSet(" + pc + ", " + l + ")", x -> x.localSet(pc, local)));
            }
        }
        return all;
    }

    /** Each changes what some question answers in some situation, or changes nothing. */
    private static List<Change> changes() {
        return List.of(
            new Change("declare(0, 0, 0, 3)", x -> x.declare(0, 0, 0, 3)),
            new Change("declare(0, 1, 0, 0)", x -> x.declare(0, 1, 0, 0)),
            new Change("declare(0, 2, 1, 1)", x -> x.declare(0, 2, 1, 1)),
            new Change("declare(1, 1, 0, 1)", x -> x.declare(1, 1, 0, 1)),
            new Change("declare(1, 2, 0, 0)", x -> x.declare(1, 2, 0, 0)),
            new Change("a refused declare", x -> x.declare(0, 0, 0, 4)),
            new Change("setClass(0, 0)", x -> x.setClass(0, 0)),
            new Change("setClass(0, 1)", x -> x.setClass(0, 1)),
            new Change("setClass(1, 0)", x -> x.setClass(1, 0)),
            new Change("setClass(1, 1)", x -> x.setClass(1, 1)),
            new Change("a refused setClass", x -> x.setClass(2, 1)),
            new Change("add(DROP, 0, 0)", x -> x.add(Kit.DROP, 0, 0)),
            new Change("add(SHARE, 2, 1)", x -> x.add(Kit.SHARE, 2, 1)),
            new Change("add(CALL, 2, 0)", x -> x.add(Kit.CALL, 2, 0)),
            new Change("add(IF, 0, 0)", x -> x.add(Kit.IF, 0, 0)),
            new Change("add(END, 0, 0)", x -> x.add(Kit.END, 0, 0)),
            new Change("a refused add", x -> x.add(Kit.MERGE, 1, 1)),
            new Change("clear()", TypestateChecker::clear),
            new Change("another program of the same length", DocumentNotPromisedTest::another),
            new Change("a run", x -> x.run(5, 7)),
            new Change("nothing", x -> { }));
    }

    /** As long as before, so that nothing can be told from the length. */
    private static void another(TypestateChecker x) {
        int length = x.length();
        x.clear();
        for (int i = 0; i < length; i++) x.add(Kit.DROP, i % 3, 0);
    }

    /** The answers hang on nothing but what the object holds: not on what was asked before, nor how often. */
    private static void asDescribed() {
        for (Situations.Situation s : Situations.ALL) {
            TypestateChecker asked = s.make().get();
            for (int round = 0; round < 3; round++) {
                for (int i = 0; i < QUESTIONS.size(); i++) {
                    // Forwards, backwards, and each question twice in a row.
                    Question q = QUESTIONS.get(round == 1 ? QUESTIONS.size() - 1 - i : i);
                    int want = q.ask.applyAsInt(s.make().get());
                    due.is(q.name + " on " + s.name(), q.ask.applyAsInt(asked), want);
                    if (round == 2) due.is(q.name + " again on " + s.name(), q.ask.applyAsInt(asked), want);
                }
            }
        }
    }

    /** After a change each question, the first to be asked, answers as on an object that was never asked before. */
    private static void current() {
        int different = 0;
        for (Situations.Situation s : Situations.ALL) {
            for (Change change : CHANGES) {
                for (Question q : QUESTIONS) {
                    TypestateChecker asked = s.make().get(), fresh = s.make().get();
                    for (Question every : QUESTIONS) every.ask.applyAsInt(asked);
                    int before = q.ask.applyAsInt(asked);
                    change.make.accept(asked);
                    change.make.accept(fresh);
                    int want = q.ask.applyAsInt(fresh);
                    due.is(q.name + " on " + s.name() + " after " + change.name, q.ask.applyAsInt(asked), want);
                    if (want != before) different++;
                }
            }
        }
        due.is("answers that a change made others, enough of them", different > 300, true);
    }
}

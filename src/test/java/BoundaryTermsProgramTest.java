/** The terms 'Protocol', 'Permissions and configurations' and 'Program', sentence by sentence. */
public final class BoundaryTermsProgramTest {
    private static final Section section = new Section("BoundaryTermsProgramTest", "**Protocol.**", "**Well-formed.**");
    private static final Due due = section.due;
    private static final int IF = Kit.IF, ELSE = Kit.ELSE, END = Kit.END, LOOP = Kit.LOOP, CALL = Kit.CALL,
        SHARE = Kit.SHARE, MERGE = Kit.MERGE, DROP = Kit.DROP, IFIN = Kit.IFIN;
    private static final int HALF = TypestateChecker.HALF, FULL = TypestateChecker.FULL;

    public static void main(String[] args) {
        section.sentence("A method m of class c is undeclared until `declare` gives it a required state and a resulting "
            + "state.", BoundaryTermsProgramTest::undeclared);
        section.sentence("Each object has a class; both start as class 0.", BoundaryTermsProgramTest::classes);
        section.sentence("Classes and declarations live until overwritten; `clear()` keeps them.",
            BoundaryTermsProgramTest::live);
        section.sentence("A local is null or holds a reference to one object with permission HALF or FULL.",
            BoundaryTermsProgramTest::locals);
        section.sentence("A configuration is: a program counter pc, the three locals, and the states of the two objects.",
            BoundaryTermsProgramTest::configuration);
        section.sentence("The initial configuration: pc 0; local 0 holds object 0 with FULL; local 1 holds object 1 with "
            + "FULL; local 2 is null; both objects are in state 0.", BoundaryTermsProgramTest::initial);
        section.sentence("A list of statements (op, a, b) with indices 0..length-1, at most CAP of them:",
            BoundaryTermsProgramTest::list);
        section.sentence("`CALL l m` (a = l, b = m): call method m (0..3) through local l (0..2).",
            BoundaryTermsProgramTest::call);
        section.sentence("`SHARE d s` (a = d, b = s): d (0..2) gets a HALF share of s's object; s keeps HALF; d != s.",
            BoundaryTermsProgramTest::share);
        section.sentence("`MERGE d s` (a = d, b = s): d gets back s's permission, s becomes null; d != s.",
            BoundaryTermsProgramTest::merge);
        section.sentence("`DROP l` (a = l): l becomes null; its permission is lost.", BoundaryTermsProgramTest::drop);
        section.sentence("`IF`: branch on the next decision (a block; may have one ELSE).", BoundaryTermsProgramTest::branch);
        section.sentence("`IFIN l s` (a = l, b = s): branch on whether the object of l is in state s (0..3) (a block; may "
            + "have one ELSE).", BoundaryTermsProgramTest::ifin);
        section.sentence("`ELSE`, `END`: block delimiters.", BoundaryTermsProgramTest::delimiters);
        section.sentence("`LOOP`: repeat the body while the next decision is 1 (a block, no ELSE).",
            BoundaryTermsProgramTest::loop);
        section.sentence("Operands not named above for a statement kind are ignored.",
            BoundaryTermsProgramTest::ignoredOperands);
        section.end();
    }

    private static void undeclared() {
        for (int method = 0; method < 8; method++) {
            int cls = method / 4, m = method % 4;
            TypestateChecker x = Kit.with(CALL, 0, m);
            x.setClass(0, cls);
            due.is("the call at the start", x.run(0, 1), TypestateChecker.F_UNDECLARED);
            for (int other = 0; other < 8; other++) if (other != method) x.declare(other / 4, other % 4, 0, 0);
            x.declare(cls, m, -1, 0);
            x.declare(cls, m, 0, 4);
            x.declare(cls + 2, m, 0, 0);
            x.declare(cls, m + 4, 0, 0);
            due.is("the call after all others and refused ones", x.run(0, 1), TypestateChecker.F_UNDECLARED);
            due.is("faultKind() then", x.faultKind(), TypestateChecker.F_UNDECLARED);
            x.declare(cls, m, 0, 2);
            due.is("the call when declared", x.run(0, 1), TypestateChecker.RUN_DONE);
            due.is("check() then", x.check(), TypestateChecker.ACCEPTED);
            due.is("objState(0) then", x.objState(0), 2);
        }
    }

    private static void classes() {
        for (int obj = 0; obj < 2; obj++) {
            due.is("the class of object " + obj, Whole.classOf(new TypestateChecker(8), obj), 0);
            TypestateChecker x = new TypestateChecker(8);
            x.setClass(obj, 1);
            due.is("the other's class", Whole.classOf(x, 1 - obj), 0);
            due.is("its own", Whole.classOf(x, obj), 1);
        }
    }

    private static void live() {
        for (Situations.Situation s : Situations.ALL) {
            String before = Whole.protocol(s.make());
            due.is("the protocol of " + s.name() + " after everything that does not set it",
                Whole.protocol(Situations.after(s.make(), x -> {
                    x.clear();
                    Kit.append(x, CALL, 0, 0, DROP, 0, 0);
                    x.run(-1, 99);
                    Kit.checker(x);
                    x.clear();
                    x.clear();
                })), before);
            due.is("an overwritten one", Whole.declaration(Situations.after(s.make(), x -> {
                x.declare(0, 1, 3, 2);
                x.clear();
            }), 0, 1), "3>2");
        }
    }

    private static void locals() {
        int[][][] lists = {Programs.ACCEPTED, Programs.REJECTED, Programs.MALFORMED};
        for (int[][] list : lists) {
            for (int[] statements : list) {
                TypestateChecker x = Kit.file(statements);
                for (int choices : new int[] {0, 1, 3, 0x55555555, -1}) {
                    for (int n = 0; n < 20; n++) {
                        x.run(choices, n);
                        for (int l = 0; l < 3; l++) nullOrHolds(x.localObject(l), x.localPerm(l));
                    }
                }
            }
        }
    }

    private static void nullOrHolds(int object, int perm) {
        boolean isNull = object == -1 && perm == 0;
        boolean holds = (object == 0 || object == 1) && (perm == HALF || perm == FULL);
        due.is("a local of " + object + " and " + perm + " is null or holds", isNull || holds, true);
    }

    /** Each part of the configuration is moved by itself, and nothing else moves with it but the pc. */
    private static void configuration() {
        TypestateChecker x = Kit.with(DROP, 2, 0, CALL, 0, 0, CALL, 1, 1, DROP, 0, 0, SHARE, 2, 1, DROP, 1, 0);
        x.declare(0, 0, 0, 3);
        x.declare(0, 1, 0, 2);
        String[] after = {"0 0 locals 0:2 1:2 -1:0", "0 0 locals 0:2 1:2 -1:0", "3 0 locals 0:2 1:2 -1:0",
            "3 2 locals 0:2 1:2 -1:0", "3 2 locals -1:0 1:2 -1:0", "3 2 locals -1:0 1:1 1:1", "3 2 locals -1:0 -1:0 1:1"};
        for (int n = 0; n <= 6; n++) {
            x.run(0, n);
            due.is("after " + n + " steps", Kit.machine(x), "pc " + n + " steps " + n + " states " + after[n]);
        }
    }

    private static void initial() {
        for (Situations.Situation s : Situations.ALL) {
            TypestateChecker x = s.make().get();
            x.run(0, 0);
            due.is("machinePc()", x.machinePc(), 0);
            due.is("localObject(0)", x.localObject(0), 0);
            due.is("localPerm(0)", x.localPerm(0), FULL);
            due.is("localObject(1)", x.localObject(1), 1);
            due.is("localPerm(1)", x.localPerm(1), FULL);
            due.is("localObject(2)", x.localObject(2), -1);
            due.is("localPerm(2)", x.localPerm(2), 0);
            due.is("objState(0)", x.objState(0), 0);
            due.is("objState(1)", x.objState(1), 0);
        }
    }

    private static void list() {
        for (int cap = 8; cap <= 16; cap++) {
            TypestateChecker x = new TypestateChecker(cap);
            // Each statement shows at its own index: there alone the fault is.
            for (int at = 0; at < cap; at++) {
                x.clear();
                for (int i = 0; i < cap; i++) due.is("the index", x.add(i == at ? CALL : DROP, 2, 0), i);
                due.is("one more than CAP", x.add(DROP, 2, 0), -1);
                due.is("faultPc()", x.faultPc(), at);
            }
        }
    }

    /** Local l holds an object with FULL; of its class only m leads from 0 to 3, the other methods to 1. */
    private static void call() {
        int[][] ways = {{}, {}, {SHARE, 2, 0, MERGE, 2, 0}};
        for (int l = 0; l < 3; l++) {
            for (int m = 0; m < 4; m++) {
                TypestateChecker x = Kit.with(ways[l]);
                for (int i = 0; i < 4; i++) x.declare(0, i, 0, i == m ? 3 : 1);
                x.add(CALL, l, m);
                due.is("run", x.run(0, 9), TypestateChecker.RUN_DONE);
                int object = l == 1 ? 1 : 0;
                due.is("the state of the object called", x.objState(object), 3);
                due.is("the state of the other", x.objState(1 - object), 0);
            }
        }
        due.is("add(CALL, 3, 0)", new TypestateChecker(8).add(CALL, 3, 0), -1);
        due.is("add(CALL, -1, 0)", new TypestateChecker(8).add(CALL, -1, 0), -1);
        due.is("add(CALL, 0, 4)", new TypestateChecker(8).add(CALL, 0, 4), -1);
        due.is("add(CALL, 0, -1)", new TypestateChecker(8).add(CALL, 0, -1), -1);
    }

    private static void share() {
        for (int d = 0; d < 3; d++) {
            for (int s = 0; s < 2; s++) {
                if (d == s) continue;
                TypestateChecker x = Kit.with(DROP, d, 0, SHARE, d, s);
                due.is("run", x.run(0, 9), TypestateChecker.RUN_DONE);
                due.is("the object of d", x.localObject(d), s);
                due.is("the permission of d", x.localPerm(d), HALF);
                due.is("the object of s", x.localObject(s), s);
                due.is("the permission of s", x.localPerm(s), HALF);
            }
        }
        for (int l = 0; l < 3; l++) due.is("a local with itself", new TypestateChecker(8).add(SHARE, l, l), -1);
    }

    private static void merge() {
        for (int d = 0; d < 3; d++) {
            for (int s = 0; s < 3; s++) {
                if (d == s || d + s == 1) continue;
                int held = d == 2 ? s : d;
                TypestateChecker x = Kit.with(SHARE, 2, held, MERGE, d, s);
                due.is("run", x.run(0, 9), TypestateChecker.RUN_DONE);
                due.is("the object of d", x.localObject(d), held);
                due.is("the permission of d", x.localPerm(d), FULL);
                due.is("the object of s", x.localObject(s), -1);
                due.is("the permission of s", x.localPerm(s), 0);
            }
        }
        for (int l = 0; l < 3; l++) due.is("a local with itself", new TypestateChecker(8).add(MERGE, l, l), -1);
    }

    private static void drop() {
        TypestateChecker x = Kit.file(SHARE, 2, 0, DROP, 2, 0);
        x.run(0, 9);
        due.is("localPerm(2)", x.localPerm(2), 0);
        due.is("localPerm(0), to which nothing comes back", x.localPerm(0), HALF);
        x.add(CALL, 0, 0);
        due.is("a call that needs FULL", x.run(0, 9), TypestateChecker.F_PERM);
        Kit.program(x, SHARE, 2, 0, DROP, 2, 0, SHARE, 2, 0);
        due.is("a share that needs FULL", x.run(0, 9), TypestateChecker.F_SPLIT);
        Kit.program(x, SHARE, 2, 0, DROP, 2, 0, MERGE, 0, 2);
        due.is("a merge with the dropped half", x.run(0, 9), TypestateChecker.F_NULL);
        for (int l = 0; l < 3; l++) {
            Kit.program(x, DROP, l, 0);
            x.run(0, 9);
            due.is("localObject(" + l + ")", x.localObject(l), -1);
        }
    }

    private static void branch() {
        TypestateChecker x = Kit.with(IF, 0, 0, DROP, 0, 0, ELSE, 0, 0, DROP, 1, 0, END, 0, 0);
        x.run(1, 9);
        due.is("decision 1", Kit.machine(x), "pc 5 steps 3 states 0 0 locals -1:0 1:2 -1:0");
        x.run(0, 9);
        due.is("decision 0", Kit.machine(x), "pc 5 steps 3 states 0 0 locals 0:2 -1:0 -1:0");
        x.run(2, 9);
        due.is("decision 0 and a 1 behind it", Kit.machine(x), "pc 5 steps 3 states 0 0 locals 0:2 -1:0 -1:0");
        elseParts(IF);
    }

    private static void elseParts(int op) {
        boolean mayHaveOne = op != LOOP;
        due.is("no ELSE", Kit.with(op, 0, 0, END, 0, 0).check(), TypestateChecker.ACCEPTED);
        due.is("one ELSE", Kit.with(op, 0, 0, ELSE, 0, 0, END, 0, 0).check(),
            mayHaveOne ? TypestateChecker.ACCEPTED : TypestateChecker.MALFORMED);
        due.is("two ELSE", Kit.with(op, 0, 0, ELSE, 0, 0, ELSE, 0, 0, END, 0, 0).check(), TypestateChecker.MALFORMED);
        due.is("no END", Kit.with(op, 0, 0).check(), TypestateChecker.MALFORMED);
    }

    private static void ifin() {
        for (int l = 0; l < 2; l++) {
            for (int state = 0; state < 4; state++) {
                for (int asked = 0; asked < 4; asked++) {
                    TypestateChecker x = Kit.with(CALL, l, 0, IFIN, l, asked, DROP, 0, 0, ELSE, 0, 0, DROP, 1, 0, END, 0, 0);
                    x.declare(0, 0, 0, state);
                    for (int choices : new int[] {0, -1}) {
                        due.is("run", x.run(choices, 9), TypestateChecker.RUN_DONE);
                        due.is("localPerm(0)", x.localPerm(0), state == asked ? 0 : FULL);
                        due.is("localPerm(1)", x.localPerm(1), state == asked ? FULL : 0);
                    }
                    due.is("localSet(6, 0)", x.localSet(6, 0), state == asked ? 1 : 4);
                }
            }
        }
        due.is("add(IFIN, 0, 4)", new TypestateChecker(8).add(IFIN, 0, 4), -1);
        due.is("add(IFIN, 0, -1)", new TypestateChecker(8).add(IFIN, 0, -1), -1);
        elseParts(IFIN);
    }

    private static void delimiters() {
        for (int op : new int[] {ELSE, END}) {
            due.is("a delimiter alone", Kit.with(op, 0, 0).check(), TypestateChecker.MALFORMED);
            due.is("a delimiter in a block", Kit.with(IF, 0, 0, op, 0, 0, op == END ? DROP : END, 0, 0).check(),
                TypestateChecker.ACCEPTED);
            due.is("a delimiter behind a block", Kit.with(IF, 0, 0, END, 0, 0, op, 0, 0).check(),
                TypestateChecker.MALFORMED);
        }
    }

    private static void loop() {
        TypestateChecker x = Kit.with(LOOP, 0, 0, DROP, 2, 0, END, 0, 0, DROP, 2, 0);
        for (int times = 0; times < 32; times++) {
            int choices = times == 31 ? 0x7fffffff : (1 << times) - 1;
            due.is("run", x.run(choices, 4096), TypestateChecker.RUN_DONE);
            due.is("stepsDone() with " + times + " repetitions", x.stepsDone(), 3 * times + 2);
        }
        elseParts(LOOP);
    }

    /** The same program with other numbers in the places that its statements do not name, and with noughts there. */
    private static void ignoredOperands() {
        int[] any = {Integer.MIN_VALUE, -256, -1, 0, 1, 2, 3, 4, 15, 16, 17, 256, Integer.MAX_VALUE};
        TypestateChecker plain = unnamed(0, 0);
        for (int a : any) {
            for (int b : any) {
                TypestateChecker x = unnamed(a, b);
                due.is("the checker with " + a + " and " + b, Kit.checker(x), Kit.checker(plain));
                for (int choices = 0; choices < 16; choices++) {
                    for (int n = 0; n < 14; n++) {
                        due.is("run with " + a + " and " + b, x.run(choices, n), plain.run(choices, n));
                        due.is("the machine with " + a + " and " + b, Kit.machine(x), Kit.machine(plain));
                    }
                }
            }
        }
    }

    private static TypestateChecker unnamed(int a, int b) {
        return Kit.file(IF, a, b, DROP, 0, b, LOOP, a, b, DROP, 2, b, END, a, b, ELSE, a, b, CALL, 0, 0, LOOP, a, b,
            DROP, 1, b, END, a, b, END, a, b, SHARE, 2, 0, IFIN, 0, 1, END, a, b);
    }
}

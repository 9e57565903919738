import java.util.ArrayDeque;
import java.util.ArrayList;
import java.util.Arrays;
import java.util.Deque;
import java.util.HashSet;
import java.util.List;
import java.util.Set;

/**
 * The document told a second time, with the Java library and without a thought for speed.
 * ModelTest holds TypestateChecker's answers against it.
 */
final class Model {
    private record Statement(int op, int a, int b) {
    }

    /** A local is null or a Reference. */
    private record Reference(int object, int perm) {
    }

    private record Configuration(int pc, List<Reference> locals, List<Integer> states) {
        Configuration at(int next) {
            return new Configuration(next, locals, states);
        }

        Configuration withLocal(int l, Reference r) {
            List<Reference> changed = new ArrayList<>(locals);
            changed.set(l, r);
            return new Configuration(pc, changed, states);
        }

        Configuration withState(int o, int s) {
            List<Integer> changed = new ArrayList<>(states);
            changed.set(o, s);
            return new Configuration(pc, locals, changed);
        }
    }

    /** What a step gives: the next configuration, or a fault. */
    private record Outcome(Configuration next, int fault) {
    }

    private final int cap;
    private final int[][][] protocol = new int[2][4][];
    private final int[] classes = {0, 0};
    private final List<Statement> program = new ArrayList<>();
    private Configuration machine = initial();
    private int steps = 0;

    Model(int capacity) {
        cap = Math.max(8, Math.min(16, capacity));
    }

    private static Configuration initial() {
        return new Configuration(0, Arrays.asList(new Reference(0, 2), new Reference(1, 2), null), List.of(0, 0));
    }

    private static boolean in(int v, int first, int last) {
        return first <= v && v <= last;
    }

    boolean declare(int cls, int m, int req, int res) {
        if (!in(cls, 0, 1) || !in(m, 0, 3) || !in(req, 0, 3) || !in(res, 0, 3)) return false;
        protocol[cls][m] = new int[] {req, res};
        return true;
    }

    boolean setClass(int obj, int cls) {
        if (!in(obj, 0, 1) || !in(cls, 0, 1)) return false;
        classes[obj] = cls;
        return true;
    }

    int add(int op, int a, int b) {
        boolean taken = switch (op) {
            case 1, 6 -> in(a, 0, 2) && in(b, 0, 3);
            case 2, 3 -> in(a, 0, 2) && in(b, 0, 2) && a != b;
            case 4 -> in(a, 0, 2);
            case 5, 7, 8, 9 -> true;
            default -> false;
        };
        if (!taken || program.size() == cap) return -1;
        program.add(new Statement(op, a, b));
        return program.size() - 1;
    }

    void clear() {
        program.clear();
        machine = initial();
        steps = 0;
    }

    int length() {
        return program.size();
    }

    private boolean wellFormed() {
        Deque<String> open = new ArrayDeque<>();
        for (Statement s : program) {
            if (s.op == 5 || s.op == 6) open.push("branch");
            if (s.op == 8) open.push("loop");
            if (s.op == 7) {
                if (open.isEmpty() || !open.pop().equals("branch")) return false;
                open.push("branch with its else");
            }
            if (s.op == 9) {
                if (open.isEmpty()) return false;
                open.pop();
            }
        }
        return open.isEmpty();
    }

    /** The index of the first statement of the kind after from that belongs to from's own block, or -1. */
    private int ownAfter(int from, int op) {
        int depth = 0;
        for (int i = from + 1; i < program.size(); i++) {
            int at = program.get(i).op;
            if (at == op && depth == 0) return i;
            if (at == 5 || at == 6 || at == 8) depth++;
            if (at == 9) depth--;
            if (depth < 0) return -1;
        }
        return -1;
    }

    private int openerOf(int end) {
        int depth = 0;
        for (int i = end - 1; ; i--) {
            int at = program.get(i).op;
            if (at == 9) depth++;
            if (at == 5 || at == 6 || at == 8) {
                if (depth == 0) return i;
                depth--;
            }
        }
    }

    private Outcome go(Configuration c, int pc) {
        return new Outcome(c.at(pc), 0);
    }

    private Outcome fault(int code) {
        return new Outcome(null, code);
    }

    private Outcome step(Configuration c, int decision) {
        Statement s = program.get(c.pc);
        return switch (s.op) {
            case 1 -> call(c, s.a, s.b);
            case 2 -> share(c, s.a, s.b);
            case 3 -> merge(c, s.a, s.b);
            case 4 -> go(c.withLocal(s.a, null), c.pc + 1);
            case 5, 8 -> branch(c, decision == 1);
            case 6 -> {
                Reference r = c.locals.get(s.a);
                yield r == null ? fault(1) : branch(c, c.states.get(r.object) == s.b);
            }
            case 7 -> go(c, ownAfter(c.pc, 9) + 1);
            default -> {
                int opener = openerOf(c.pc);
                yield go(c, program.get(opener).op == 8 ? opener : c.pc + 1);
            }
        };
    }

    private Outcome branch(Configuration c, boolean enters) {
        if (enters) return go(c, c.pc + 1);
        int other = ownAfter(c.pc, 7);
        return go(c, (other >= 0 ? other : ownAfter(c.pc, 9)) + 1);
    }

    private Outcome call(Configuration c, int l, int m) {
        Reference r = c.locals.get(l);
        if (r == null) return fault(1);
        int[] method = protocol[classes[r.object]][m];
        if (method == null) return fault(2);
        if (c.states.get(r.object) != method[0]) return fault(3);
        if (method[0] != method[1] && r.perm != 2) return fault(4);
        return go(c.withState(r.object, method[1]), c.pc + 1);
    }

    private Outcome share(Configuration c, int d, int s) {
        Reference r = c.locals.get(s);
        if (r == null) return fault(1);
        if (c.locals.get(d) != null) return fault(5);
        if (r.perm != 2) return fault(6);
        Reference half = new Reference(r.object, 1);
        return go(c.withLocal(d, half).withLocal(s, half), c.pc + 1);
    }

    private Outcome merge(Configuration c, int d, int s) {
        Reference to = c.locals.get(d), from = c.locals.get(s);
        if (to == null || from == null) return fault(1);
        if (to.object != from.object) return fault(7);
        return go(c.withLocal(d, new Reference(to.object, to.perm + from.perm)).withLocal(s, null), c.pc + 1);
    }

    /** What Kit.checker says, from one search over all decisions. */
    String checker() {
        boolean well = wellFormed();
        Set<Configuration> seen = new HashSet<>();
        int faultPc = -1, faultKind = -1;
        Deque<Configuration> todo = new ArrayDeque<>();
        if (well) todo.push(initial());
        while (!todo.isEmpty()) {
            Configuration c = todo.pop();
            if (!seen.add(c) || c.pc == program.size()) continue;
            for (int decision = 0; decision < 2; decision++) {
                Outcome o = step(c, decision);
                if (o.fault == 0) {
                    todo.push(o.next);
                } else if (faultPc < 0 || c.pc < faultPc) {
                    faultPc = c.pc;
                    faultKind = o.fault;
                } else if (c.pc == faultPc) {
                    faultKind = Math.min(faultKind, o.fault);
                }
            }
        }
        int answer = !well ? 12 : faultPc >= 0 ? 11 : 10;
        return program.size() + " " + answer + " " + faultPc + " " + faultKind + points(seen);
    }

    private String points(Set<Configuration> seen) {
        StringBuilder all = new StringBuilder();
        for (int pc = 0; pc <= program.size(); pc++) {
            int[] states = new int[2], locals = new int[3];
            for (Configuration c : seen) {
                if (c.pc != pc) continue;
                for (int o = 0; o < 2; o++) states[o] |= 1 << c.states.get(o);
                for (int l = 0; l < 3; l++) locals[l] |= 1 << bit(c.locals.get(l));
            }
            all.append(" |").append(pc).append(" s").append(states[0]).append(" s").append(states[1]);
            for (int l = 0; l < 3; l++) all.append(" l").append(locals[l]);
        }
        return all.toString();
    }

    private static int bit(Reference r) {
        if (r == null) return 0;
        return r.object == 0 ? r.perm : 2 + r.perm;
    }

    int run(int choices, int budget) {
        machine = initial();
        steps = 0;
        if (!wellFormed()) return 12;
        int n = Math.max(0, Math.min(4096, budget));
        int k = 0;
        while (true) {
            if (machine.pc == program.size()) return 20;
            if (steps == n) return 21;
            int op = program.get(machine.pc).op;
            boolean decides = op == 5 || op == 8;
            Outcome o = step(machine, decides ? (choices >>> (k % 32)) & 1 : -1);
            if (o.fault != 0) return o.fault;
            if (decides) k++;
            machine = o.next;
            steps++;
        }
    }

    /** What Kit.machine says. */
    String machine() {
        StringBuilder all = new StringBuilder("pc " + machine.pc + " steps " + steps
            + " states " + machine.states.get(0) + " " + machine.states.get(1) + " locals");
        for (Reference r : machine.locals) all.append(r == null ? " -1:0" : " " + r.object + ":" + r.perm);
        return all.toString();
    }
}

import java.util.ArrayList;
import java.util.HashSet;
import java.util.List;
import java.util.Set;

/**
 * A way to every configuration of locals and states, so that a statement can be tried from each of them.
 * Object 0 is of class 0, object 1 of class 1; in both, m0 leads from 0 to the state wanted.
 */
final class Setups {
    /** What the locals hold, -1 and 0 for null; the states; and the statements that lead there, without a block. */
    record Setup(int[] objects, int[] perms, int[] states, int[] way) {
        int length() {
            return way.length / 3;
        }

        String locals() {
            StringBuilder all = new StringBuilder();
            for (int l = 0; l < 3; l++) all.append(l == 0 ? "" : " ").append(objects[l]).append(':').append(perms[l]);
            return all.toString();
        }

        /** The machine here, after the steps of the way and so many more. */
        String machine(int pc, int steps) {
            return "pc " + pc + " steps " + steps + " states " + states[0] + " " + states[1] + " locals " + locals();
        }

        Setup withLocal(int l, int object, int perm) {
            int[] o = objects.clone(), p = perms.clone();
            o[l] = object;
            p[l] = perm;
            return new Setup(o, p, states, way);
        }

        Setup withState(int object, int state) {
            int[] s = states.clone();
            s[object] = state;
            return new Setup(objects, perms, s, way);
        }

        private Setup by(int op, int a, int b) {
            return new Setup(objects, perms, states, Programs.join(way, new int[] {op, a, b}));
        }
    }

    static final List<Setup> ALL = all();

    private Setups() {
    }

    /** Besides m0, class 0 has m1 1 to 1, m2 0 to 3 and no m3; class 1 has m1 2 to 1, no m2, and m3 0 to 0. */
    static int[] declaration(Setup s, int cls, int m) {
        int[][][] declared = {{{0, s.states[0]}, {1, 1}, {0, 3}, null}, {{0, s.states[1]}, {2, 1}, null, {0, 0}}};
        return declared[cls][m];
    }

    static TypestateChecker make(Setup s, int... more) {
        TypestateChecker x = Kit.with(Programs.join(s.way, more));
        x.setClass(1, 1);
        for (int i = 0; i < 8; i++) {
            int[] d = declaration(s, i / 4, i % 4);
            if (d != null) x.declare(i / 4, i % 4, d[0], d[1]);
        }
        return x;
    }

    private static List<Setup> all() {
        List<Setup> found = new ArrayList<>();
        for (int states = 0; states < 16; states++) {
            int[] way = {Kit.CALL, 0, 0, Kit.CALL, 1, 0};
            int[] both = {states / 4, states % 4};
            spread(new Setup(new int[] {0, 1, -1}, new int[] {2, 2, 0}, both, way), found);
        }
        return found;
    }

    /** Every share, merge and drop that may be done, from each setup found, until nothing new comes. */
    private static void spread(Setup start, List<Setup> found) {
        Set<String> seen = new HashSet<>();
        List<Setup> todo = new ArrayList<>();
        todo.add(start);
        seen.add(start.locals());
        for (int i = 0; i < todo.size(); i++) {
            for (Setup next : nexts(todo.get(i))) if (seen.add(next.locals())) todo.add(next);
        }
        found.addAll(todo);
    }

    private static List<Setup> nexts(Setup s) {
        List<Setup> nexts = new ArrayList<>();
        for (int d = 0; d < 3; d++) {
            if (s.objects[d] >= 0) nexts.add(s.withLocal(d, -1, 0).by(Kit.DROP, d, 0));
            for (int from = 0; from < 3; from++) {
                int object = s.objects[from];
                if (d == from || object < 0) continue;
                if (s.objects[d] < 0 && s.perms[from] == 2)
                    nexts.add(s.withLocal(d, object, 1).withLocal(from, object, 1).by(Kit.SHARE, d, from));
                if (s.objects[d] == object)
                    nexts.add(s.withLocal(d, object, 2).withLocal(from, -1, 0).by(Kit.MERGE, d, from));
            }
        }
        return nexts;
    }
}

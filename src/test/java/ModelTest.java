/**
 * Long runs of calls, the same ones each time, on TypestateChecker and on Model: every answer and
 * everything that both show must be the same. And where check() accepts, no run may fault.
 */
public final class ModelTest {
    private static final Due due = new Due("ModelTest");
    private static final int[] ODD = {Integer.MIN_VALUE, -2, -1, 4, 5, 16, 17, 4096, 4097, Integer.MAX_VALUE};
    private static int[] answers = new int[32];
    private static long seed = 20240607L;

    public static void main(String[] args) {
        for (int i = 0; i < 300; i++) anyCalls(60);
        for (int i = 0; i < 20000; i++) goodProgram();
        System.out.println("ModelTest: " + answers[10] + " accepted, " + answers[11] + " rejected, "
            + answers[12] + " malformed");
        due.is("enough programs of each kind", answers[10] > 500 && answers[11] > 500 && answers[12] > 500, true);
        due.end();
    }

    /** A whole number in 0..bound-1 from a plain linear rule, so that every run of the test is the same. */
    private static int pick(int bound) {
        seed = seed * 6364136223846793005L + 1442695040888963407L;
        return (int) ((seed >>> 33) % bound);
    }

    private static int anyInt() {
        return pick(1 << 16) << 16 | pick(1 << 16);
    }

    /** Mostly in 0..bound-1, now and then outside. */
    private static int nearly(int bound) {
        return pick(12) == 0 ? ODD[pick(ODD.length)] : pick(bound);
    }

    private static void same(TypestateChecker x, Model y, String what) {
        due.is("the machine after " + what, Kit.machine(x), y.machine());
        due.is("the checker after " + what, Kit.checker(x), y.checker());
        answers[x.check()]++;
    }

    private static void anyCalls(int calls) {
        int capacity = nearly(20);
        TypestateChecker x = new TypestateChecker(capacity);
        Model y = new Model(capacity);
        StringBuilder told = new StringBuilder("new " + capacity);
        for (int i = 0; i < calls; i++) {
            anyCall(x, y, told);
            same(x, y, told.toString());
        }
    }

    private static void anyCall(TypestateChecker x, Model y, StringBuilder told) {
        int kind = pick(20);
        int a = nearly(kind < 4 ? 2 : 3), b = nearly(4), c = nearly(4), d = nearly(4);
        if (kind == 0) {
            told.append("; clear");
            x.clear();
            y.clear();
        } else if (kind == 1) {
            told.append("; setClass ").append(a).append(' ').append(b);
            due.is(told.toString(), x.setClass(a, b), y.setClass(a, b));
        } else if (kind < 4) {
            told.append("; declare ").append(a).append(' ').append(b).append(' ').append(c).append(' ').append(d);
            due.is(told.toString(), x.declare(a, b, c, d), y.declare(a, b, c, d));
        } else if (kind < 15) {
            int op = pick(15) == 0 ? nearly(11) : pick(9) + 1;
            told.append("; add ").append(op).append(' ').append(a).append(' ').append(b);
            due.is(told.toString(), x.add(op, a, b), y.add(op, a, b));
        } else {
            bothRun(x, y, told.toString(), anyInt(), nearly(40));
        }
        due.is("length()", x.length(), y.length());
    }

    private static int bothRun(TypestateChecker x, Model y, String what, int choices, int steps) {
        int answer = x.run(choices, steps);
        due.is(what + "; run " + choices + " " + steps, answer, y.run(choices, steps));
        due.is(what + "; the machine after run " + choices + " " + steps, Kit.machine(x), y.machine());
        return answer;
    }

    /** A program whose blocks are closed as they should, under a protocol in which most methods are declared. */
    private static void goodProgram() {
        int capacity = 8 + pick(9);
        TypestateChecker x = new TypestateChecker(capacity);
        Model y = new Model(capacity);
        StringBuilder told = new StringBuilder("new " + capacity);
        protocol(x, y, told);
        statements(x, y, told, capacity - pick(4));
        same(x, y, told.toString());
        boolean accepted = x.check() == TypestateChecker.ACCEPTED;
        for (int i = 0; i < 4; i++) {
            int steps = i == 0 ? 4096 : pick(60);
            int answer = bothRun(x, y, told.toString(), anyInt(), steps);
            boolean fine = answer == TypestateChecker.RUN_DONE || answer == TypestateChecker.RUN_OUT;
            if (accepted) due.is(told + "; accepted, then run without a fault", fine, true);
        }
    }

    private static void protocol(TypestateChecker x, Model y, StringBuilder told) {
        int c1 = pick(2);
        x.setClass(1, c1);
        y.setClass(1, c1);
        told.append("; setClass 1 ").append(c1);
        for (int i = 0; i < 8; i++) {
            if (pick(8) == 0) continue;
            int req = pick(3) == 0 ? pick(4) : 0, res = pick(2) == 0 ? req : pick(4);
            x.declare(i / 4, i % 4, req, res);
            y.declare(i / 4, i % 4, req, res);
            told.append("; declare ").append(i / 4).append(' ').append(i % 4).append(' ').append(req)
                .append(' ').append(res);
        }
    }

    private static void statements(TypestateChecker x, Model y, StringBuilder told, int length) {
        boolean[] mayElse = new boolean[17];
        int depth = 0;
        while (x.length() < length) {
            int room = length - x.length();
            int op = 1 + pick(9);
            if (room <= depth) op = Kit.END;
            boolean opens = op == Kit.IF || op == Kit.IFIN || op == Kit.LOOP;
            if (opens && room < depth + 2) continue;
            if (op == Kit.END && depth == 0) continue;
            if (op == Kit.ELSE && (depth == 0 || !mayElse[depth] || room <= depth)) continue;
            int a = pick(3), b = pick(op == Kit.SHARE || op == Kit.MERGE ? 3 : 4);
            due.is(told + "; add " + op + " " + a + " " + b, x.add(op, a, b), y.add(op, a, b));
            told.append("; add ").append(op).append(' ').append(a).append(' ').append(b);
            if (op == Kit.END) depth--;
            if (op == Kit.ELSE) mayElse[depth] = false;
            if (opens) mayElse[++depth] = op != Kit.LOOP;
        }
    }
}

/** Programs that several tests use, three numbers a statement. */
final class Programs {
    private static final int IF = Kit.IF, IFIN = Kit.IFIN, ELSE = Kit.ELSE, LOOP = Kit.LOOP, END = Kit.END,
        DROP = Kit.DROP, CALL = Kit.CALL, SHARE = Kit.SHARE, MERGE = Kit.MERGE;

    /** Each breaks one rule of the scan; some would also fault, and some are full. */
    static final int[][] MALFORMED = {
        {END, 0, 0},
        {ELSE, 0, 0},
        {IF, 0, 0},
        {IFIN, 0, 0},
        {LOOP, 0, 0},
        {CALL, 2, 0, IF, 0, 0},
        {IF, 0, 0, ELSE, 0, 0},
        {IFIN, 0, 0, ELSE, 0, 0},
        {IF, 0, 0, END, 0, 0, END, 0, 0},
        {LOOP, 0, 0, END, 0, 0, ELSE, 0, 0},
        {LOOP, 0, 0, ELSE, 0, 0, END, 0, 0},
        {IF, 0, 0, ELSE, 0, 0, ELSE, 0, 0, END, 0, 0},
        {IFIN, 1, 1, ELSE, 0, 0, ELSE, 0, 0, END, 0, 0},
        {END, 0, 0, IF, 0, 0},
        {END, 0, 0, LOOP, 0, 0, END, 0, 0},
        {IF, 0, 0, LOOP, 0, 0, ELSE, 0, 0, END, 0, 0, END, 0, 0},
        {IF, 0, 0, IF, 0, 0, END, 0, 0},
        {LOOP, 0, 0, IFIN, 0, 0, ELSE, 0, 0, END, 0, 0},
        repeat(16, LOOP, 0, 0),
        repeat(16, END, 0, 0),
        repeat(16, ELSE, 0, 0),
        join(repeat(15, DROP, 2, 0), new int[] {IF, 0, 0}),
        join(repeat(15, DROP, 2, 0), new int[] {END, 0, 0}),
        join(repeat(9, IF, 0, 0), repeat(7, END, 0, 0)),
        join(repeat(7, IF, 0, 0), repeat(9, END, 0, 0)),
        join(repeat(8, LOOP, 0, 0), join(repeat(7, END, 0, 0), new int[] {ELSE, 0, 0}))};

    /** No decisions lead to a fault in these, under Kit.file's protocol. */
    static final int[][] ACCEPTED = {
        {},
        {DROP, 2, 0},
        {CALL, 0, 0, CALL, 0, 1, CALL, 0, 2},
        {CALL, 0, 0, LOOP, 0, 0, CALL, 0, 1, END, 0, 0, CALL, 0, 2},
        {LOOP, 0, 0, CALL, 0, 0, CALL, 0, 2, END, 0, 0, CALL, 1, 0},
        {IF, 0, 0, CALL, 0, 0, END, 0, 0, IFIN, 0, 1, CALL, 0, 2, ELSE, 0, 0, CALL, 0, 0, END, 0, 0},
        {CALL, 0, 0, SHARE, 2, 0, LOOP, 0, 0, CALL, 2, 1, CALL, 0, 1, END, 0, 0, MERGE, 2, 0, CALL, 2, 2},
        {LOOP, 0, 0, SHARE, 2, 1, IF, 0, 0, MERGE, 1, 2, ELSE, 0, 0, MERGE, 1, 2, END, 0, 0, CALL, 1, 0,
            CALL, 1, 2, END, 0, 0},
        {IFIN, 0, 1, CALL, 2, 0, END, 0, 0},
        {IFIN, 0, 0, DROP, 0, 0, ELSE, 0, 0, CALL, 2, 0, END, 0, 0},
        {LOOP, 0, 0, DROP, 0, 0, DROP, 1, 0, DROP, 2, 0, END, 0, 0},
        {LOOP, 0, 0, LOOP, 0, 0, CALL, 0, 0, CALL, 0, 2, END, 0, 0, IF, 0, 0, CALL, 1, 0, CALL, 1, 1, CALL, 1, 2,
            ELSE, 0, 0, LOOP, 0, 0, END, 0, 0, END, 0, 0, END, 0, 0, CALL, 0, 0, DROP, 0, 0},
        join(repeat(8, LOOP, 0, 0), repeat(8, END, 0, 0)),
        join(repeat(8, IF, 0, 0), repeat(8, END, 0, 0)),
        repeat(16, DROP, 1, 0)};

    /** Some decisions lead to a fault in these, under Kit.file's protocol. */
    static final int[][] REJECTED = {
        {CALL, 2, 0},
        {CALL, 0, 3},
        {CALL, 0, 1},
        {SHARE, 2, 0, CALL, 2, 0},
        {SHARE, 1, 0},
        {SHARE, 2, 0, DROP, 1, 0, SHARE, 1, 2},
        {MERGE, 0, 1},
        {IFIN, 2, 0, END, 0, 0},
        {IF, 0, 0, CALL, 2, 0, END, 0, 0},
        {IF, 0, 0, ELSE, 0, 0, CALL, 2, 0, END, 0, 0},
        {LOOP, 0, 0, CALL, 0, 0, END, 0, 0},
        {LOOP, 0, 0, DROP, 0, 0, END, 0, 0, CALL, 0, 0},
        join(repeat(15, DROP, 2, 0), new int[] {CALL, 2, 0})};

    private Programs() {
    }

    static int[] repeat(int times, int op, int a, int b) {
        int[] all = new int[3 * times];
        for (int i = 0; i < times; i++) {
            all[3 * i] = op;
            all[3 * i + 1] = a;
            all[3 * i + 2] = b;
        }
        return all;
    }

    static int[] join(int[] first, int[] second) {
        int[] all = java.util.Arrays.copyOf(first, first.length + second.length);
        System.arraycopy(second, 0, all, first.length, second.length);
        return all;
    }
}

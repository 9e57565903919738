public final class TypestateChecker {
    public static final int OP_CALL = 1, OP_SHARE = 2, OP_MERGE = 3, OP_DROP = 4, OP_IF = 5,
        OP_IFIN = 6, OP_ELSE = 7, OP_LOOP = 8, OP_END = 9;
    public static final int HALF = 1, FULL = 2;
    public static final int F_NULL = 1, F_UNDECLARED = 2, F_STATE = 3, F_PERM = 4,
        F_OCCUPIED = 5, F_SPLIT = 6, F_MERGE = 7;
    public static final int ACCEPTED = 10, REJECTED = 11, MALFORMED = 12;
    public static final int RUN_DONE = 20, RUN_OUT = 21;

    private static final int LEAST_CAP = 8, GREATEST_CAP = 16;
    private static final int GREATEST_BUDGET = 4096;
    private static final int CLASSES = 2, METHODS = 4, STATES = 4, OBJECTS = 2, LOCALS = 3;
    private static final int DECLARATIONS = CLASSES * METHODS;
    private static final int NONE = -1;

    // A whole configuration is one number, so that the checker can mark it as reached with a
    // single index and share its step with the machine. Its digits, from the highest: the pc,
    // the values of locals 0, 1 and 2, the states of objects 0 and 1.
    // A local's value is 0 for null, else 2 * object + permission: just the bit numbers of localSet.
    private static final int LOCAL_VALUES = 5, NULL_VALUE = 0;
    private static final int STATE1_UNIT = 1;
    private static final int STATE0_UNIT = STATE1_UNIT * STATES;
    private static final int LOCAL2_UNIT = STATE0_UNIT * STATES;
    private static final int LOCAL1_UNIT = LOCAL2_UNIT * LOCAL_VALUES;
    private static final int LOCAL0_UNIT = LOCAL1_UNIT * LOCAL_VALUES;
    private static final int PC_UNIT = LOCAL0_UNIT * LOCAL_VALUES;
    private static final int CONFIGURATIONS = PC_UNIT * (GREATEST_CAP + 1);
    private static final int INITIAL = FULL * LOCAL0_UNIT + (2 + FULL) * LOCAL1_UNIT;

    private final int cap;

    private final boolean[] declared = new boolean[DECLARATIONS];
    private final int[] required = new int[DECLARATIONS];
    private final int[] resulting = new int[DECLARATIONS];
    private final int[] classOf = new int[OBJECTS];

    private int count = 0;
    private final int[] ops = new int[GREATEST_CAP];
    private final int[] firsts = new int[GREATEST_CAP];
    private final int[] seconds = new int[GREATEST_CAP];

    // Filled by matchBlocks: a block's ELSE and END under the index of its opening statement,
    // and that opening statement under the index of the ELSE and of the END.
    private final int[] elseOf = new int[GREATEST_CAP];
    private final int[] endOf = new int[GREATEST_CAP];
    private final int[] openingOf = new int[GREATEST_CAP];
    private final int[] openBlocks = new int[GREATEST_CAP];

    // Filled by explore.
    private boolean wellFormed = true;
    private final boolean[] isReached = new boolean[CONFIGURATIONS];
    private final int[] reached = new int[CONFIGURATIONS];
    private int reachedCount = 0;
    private int leastFaultPc = NONE;
    private int leastFaultCode = NONE;

    private int machine = INITIAL;
    private int machineSteps = 0;

    public TypestateChecker(int capacity) {
        cap = clamp(capacity, LEAST_CAP, GREATEST_CAP);
    }

    public boolean declare(int cls, int m, int req, int res) {
        if (!isBelow(cls, CLASSES) || !isBelow(m, METHODS)) return false;
        if (!isBelow(req, STATES) || !isBelow(res, STATES)) return false;
        int method = cls * METHODS + m;
        declared[method] = true;
        required[method] = req;
        resulting[method] = res;
        return true;
    }

    public boolean setClass(int obj, int cls) {
        if (!isBelow(obj, OBJECTS) || !isBelow(cls, CLASSES)) return false;
        classOf[obj] = cls;
        return true;
    }

    public int add(int op, int a, int b) {
        if (count >= cap || !isStatement(op, a, b)) return NONE;
        int index = count;
        ops[index] = op;
        firsts[index] = a;
        seconds[index] = b;
        count = index + 1;
        return index;
    }

    public void clear() {
        count = 0;
        resetMachine();
    }

    public int length() {
        return count;
    }

    public int check() {
        explore();
        if (!wellFormed) return MALFORMED;
        return leastFaultPc == NONE ? ACCEPTED : REJECTED;
    }

    public int faultPc() {
        explore();
        return leastFaultPc;
    }

    public int faultKind() {
        explore();
        return leastFaultCode;
    }

    public int stateSet(int pc, int obj) {
        if (!isBelow(pc, count + 1) || !isBelow(obj, OBJECTS)) return 0;
        explore();
        int set = 0;
        for (int i = 0; i < reachedCount; i++) {
            int config = reached[i];
            if (pcOf(config) == pc) set |= 1 << stateOf(config, obj);
        }
        return set;
    }

    public int localSet(int pc, int l) {
        if (!isBelow(pc, count + 1) || !isBelow(l, LOCALS)) return 0;
        explore();
        int set = 0;
        for (int i = 0; i < reachedCount; i++) {
            int config = reached[i];
            if (pcOf(config) == pc) set |= 1 << localOf(config, l);
        }
        return set;
    }

    public int run(int choices, int steps) {
        resetMachine();
        if (!matchBlocks()) return MALFORMED;
        int budget = clamp(steps, 0, GREATEST_BUDGET);
        int decisions = 0;
        for (int done = 0; done < budget; done++) {
            int pc = pcOf(machine);
            if (pc >= count) return RUN_DONE;
            int decision = (choices >>> (decisions % 32)) & 1;
            int next = step(machine, decision);
            if (next < 0) return -next;
            if (ops[pc] == OP_IF || ops[pc] == OP_LOOP) decisions++;
            machine = next;
            machineSteps = done + 1;
        }
        return pcOf(machine) == count ? RUN_DONE : RUN_OUT;
    }

    public int machinePc() {
        return pcOf(machine);
    }

    public int stepsDone() {
        return machineSteps;
    }

    public int objState(int obj) {
        return isBelow(obj, OBJECTS) ? stateOf(machine, obj) : -1;
    }

    public int localObject(int l) {
        if (!isBelow(l, LOCALS)) return -1;
        int value = localOf(machine, l);
        return value == NULL_VALUE ? -1 : objectIn(value);
    }

    public int localPerm(int l) {
        if (!isBelow(l, LOCALS)) return -1;
        int value = localOf(machine, l);
        return value == NULL_VALUE ? 0 : permissionIn(value);
    }

    private static int clamp(int value, int least, int greatest) {
        if (value < least) return least;
        return value > greatest ? greatest : value;
    }

    private static boolean isBelow(int value, int bound) {
        return value >= 0 && value < bound;
    }

    private static boolean isStatement(int op, int a, int b) {
        switch (op) {
            case OP_CALL: return isBelow(a, LOCALS) && isBelow(b, METHODS);
            case OP_SHARE:
            case OP_MERGE: return isBelow(a, LOCALS) && isBelow(b, LOCALS) && a != b;
            case OP_DROP: return isBelow(a, LOCALS);
            case OP_IFIN: return isBelow(a, LOCALS) && isBelow(b, STATES);
            case OP_IF:
            case OP_ELSE:
            case OP_LOOP:
            case OP_END: return true;
            default: return false;
        }
    }

    private void resetMachine() {
        machine = INITIAL;
        machineSteps = 0;
    }

    private boolean matchBlocks() {
        int depth = 0;
        for (int i = 0; i < count; i++) {
            int op = ops[i];
            if (op == OP_IF || op == OP_IFIN || op == OP_LOOP) {
                elseOf[i] = NONE;
                openBlocks[depth] = i;
                depth++;
            } else if (op == OP_ELSE || op == OP_END) {
                if (depth == 0) return false;
                int opening = openBlocks[depth - 1];
                openingOf[i] = opening;
                if (op == OP_END) {
                    endOf[opening] = i;
                    depth--;
                } else {
                    if (ops[opening] == OP_LOOP || elseOf[opening] != NONE) return false;
                    elseOf[opening] = i;
                }
            }
        }
        return depth == 0;
    }

    // Every answer explores anew: there are few configurations, and nothing kept can grow stale.
    private void explore() {
        forgetReached();
        wellFormed = matchBlocks();
        if (!wellFormed) return;
        reach(INITIAL);
        for (int i = 0; i < reachedCount && i < CONFIGURATIONS; i++) {
            int config = reached[i];
            int pc = pcOf(config);
            if (pc >= count) continue;
            // A statement that takes no decision does the same on both, which marks nothing twice.
            for (int decision = 0; decision <= 1; decision++) {
                int next = step(config, decision);
                if (next < 0) noteFault(pc, -next);
                else reach(next);
            }
        }
    }

    private void forgetReached() {
        for (int i = 0; i < reachedCount; i++) isReached[reached[i]] = false;
        reachedCount = 0;
        leastFaultPc = NONE;
        leastFaultCode = NONE;
    }

    private void reach(int config) {
        if (!isBelow(config, CONFIGURATIONS) || !isBelow(reachedCount, CONFIGURATIONS)) return;
        if (isReached[config]) return;
        isReached[config] = true;
        reached[reachedCount] = config;
        reachedCount++;
    }

    private void noteFault(int pc, int code) {
        boolean earlier = leastFaultPc == NONE || pc < leastFaultPc;
        if (earlier || (pc == leastFaultPc && code < leastFaultCode)) {
            leastFaultPc = pc;
            leastFaultCode = code;
        }
    }

    // Answers the next configuration, or the fault code negated: no configuration is negative.
    private int step(int config, int decision) {
        int pc = pcOf(config);
        int a = firsts[pc];
        int b = seconds[pc];
        switch (ops[pc]) {
            case OP_CALL: return stepCall(config, a, b);
            case OP_SHARE: return stepShare(config, a, b);
            case OP_MERGE: return stepMerge(config, a, b);
            case OP_DROP: return withLocal(config, a, NULL_VALUE) + PC_UNIT;
            case OP_IFIN: return stepIfin(config, a, b);
            case OP_ELSE: return withPc(config, endOf[openingOf[pc]] + 1);
            case OP_END: return stepEnd(config);
            default: return stepBranch(config, decision == 1);
        }
    }

    private int stepCall(int config, int l, int m) {
        int value = localOf(config, l);
        if (value == NULL_VALUE) return -F_NULL;
        int object = objectIn(value);
        int method = classOf[object] * METHODS + m;
        if (!declared[method]) return -F_UNDECLARED;
        if (stateOf(config, object) != required[method]) return -F_STATE;
        boolean changes = resulting[method] != required[method];
        if (changes && permissionIn(value) != FULL) return -F_PERM;
        return withState(config, object, resulting[method]) + PC_UNIT;
    }

    private static int stepShare(int config, int d, int s) {
        int source = localOf(config, s);
        if (source == NULL_VALUE) return -F_NULL;
        if (localOf(config, d) != NULL_VALUE) return -F_OCCUPIED;
        if (permissionIn(source) != FULL) return -F_SPLIT;
        int half = 2 * objectIn(source) + HALF;
        int kept = withLocal(config, s, half);
        return withLocal(kept, d, half) + PC_UNIT;
    }

    private static int stepMerge(int config, int d, int s) {
        int target = localOf(config, d);
        int source = localOf(config, s);
        if (target == NULL_VALUE || source == NULL_VALUE) return -F_NULL;
        if (objectIn(target) != objectIn(source)) return -F_MERGE;
        // Two locals on one object hold HALF each, so the sum is FULL and stays within the digit.
        int sum = target + permissionIn(source);
        int merged = withLocal(config, d, sum);
        return withLocal(merged, s, NULL_VALUE) + PC_UNIT;
    }

    private int stepIfin(int config, int l, int s) {
        int value = localOf(config, l);
        if (value == NULL_VALUE) return -F_NULL;
        int object = objectIn(value);
        boolean enters = stateOf(config, object) == s;
        return stepBranch(config, enters);
    }

    private int stepBranch(int config, boolean enters) {
        if (enters) return config + PC_UNIT;
        int pc = pcOf(config);
        int last = elseOf[pc] == NONE ? endOf[pc] : elseOf[pc];
        return withPc(config, last + 1);
    }

    private int stepEnd(int config) {
        int opening = openingOf[pcOf(config)];
        return ops[opening] == OP_LOOP ? withPc(config, opening) : config + PC_UNIT;
    }

    private static int pcOf(int config) {
        return config / PC_UNIT;
    }

    private static int withPc(int config, int pc) {
        return config % PC_UNIT + pc * PC_UNIT;
    }

    private static int localOf(int config, int l) {
        if (l == 0) return config / LOCAL0_UNIT % LOCAL_VALUES;
        return (l == 1 ? config / LOCAL1_UNIT : config / LOCAL2_UNIT) % LOCAL_VALUES;
    }

    private static int withLocal(int config, int l, int value) {
        int change = value - localOf(config, l);
        if (l == 0) return config + change * LOCAL0_UNIT;
        return config + change * (l == 1 ? LOCAL1_UNIT : LOCAL2_UNIT);
    }

    private static int stateOf(int config, int obj) {
        return obj == 0 ? config / STATE0_UNIT % STATES : config % STATES;
    }

    private static int withState(int config, int obj, int state) {
        int change = state - stateOf(config, obj);
        return config + change * (obj == 0 ? STATE0_UNIT : STATE1_UNIT);
    }

    private static int objectIn(int value) {
        return value > FULL ? 1 : 0;
    }

    private static int permissionIn(int value) {
        return value > FULL ? value - 2 : value;
    }
}

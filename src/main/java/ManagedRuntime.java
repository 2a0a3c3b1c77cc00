public final class ManagedRuntime {
    public static final int BAD = -1;
    public static final int NO_OBJECT = -2;
    public static final int ENDED = 0;
    public static final int CODE = 1;
    public static final int TIRED = 2;
    public static final int STACK = 3;
    public static final int SORT = 4;
    public static final int MEMORY = 5;
    public static final int MISSING = 6;
    public static final int DEEP = 7;

    private static final int OP_STOP = 0;
    private static final int OP_PUSH = 1;
    private static final int OP_EMPTY = 2;
    private static final int OP_LOAD = 3;
    private static final int OP_STORE = 4;
    private static final int OP_POP = 5;
    private static final int OP_DUP = 6;
    private static final int OP_SWAP = 7;
    private static final int OP_ADD = 8;
    private static final int OP_SUB = 9;
    private static final int OP_MUL = 10;
    private static final int OP_LESS = 11;
    private static final int OP_SAME = 12;
    private static final int OP_JUMP = 13;
    private static final int OP_ZERO = 14;
    private static final int OP_NEW = 15;
    private static final int OP_GET = 16;
    private static final int OP_PUT = 17;
    private static final int OP_IS = 18;
    private static final int OP_CALL = 19;
    private static final int OP_RETURN = 20;
    private static final int OP_TAKE = 21;
    private static final int OP_GIVE = 22;
    private static final int OP_OUT = 23;
    private static final int OPS = 24;

    private static final int INSTRUCTIONS = 60;
    private static final int CLASSES = 4;
    private static final int SLOTS = 4;
    private static final int GLOBALS = 4;
    private static final int FIELDS = 3;
    private static final int FRAMES = 10;
    private static final int LOCALS = 4;
    private static final int STACK_PLACES = 6;
    private static final int OBJECTS = 16;
    private static final int ALL_STARTS = CLASSES * SLOTS;
    private static final int ALL_FIELDS = OBJECTS * FIELDS;
    private static final int ALL_LOCALS = FRAMES * LOCALS;
    private static final int ALL_STACK_PLACES = FRAMES * STACK_PLACES;
    private static final int MOST_STEPS = 300;
    private static final int KEPT_OUTPUT = 20;
    private static final int LEVELS = 3;
    private static final int PATH_DIGITS = 8;
    private static final int MOST_PATH = 65535;
    private static final int LAST_DIGIT = 3;

    private static final int NONE = -1;
    private static final int GOES_ON = -1;

    // A value is one long, its sort in the upper half and its int or the place
    // of its object in the lower half: so two values are the same iff the longs
    // are equal, no value is negative, and a fresh array is full of NOTHING.
    private static final long NOTHING = 0L;
    private static final int SORT_SHIFT = 32;
    private static final int INT_SORT = 1;
    private static final long FIRST_INT = 1L << SORT_SHIFT;
    private static final long FIRST_OBJECT = 2L << SORT_SHIFT;
    private static final long LOWER_HALF = 0xFFFFFFFFL;

    private final int[] opAt = new int[INSTRUCTIONS];
    private final int[] operandAt = new int[INSTRUCTIONS];
    private final int[] aboveOf = new int[CLASSES];
    private final int[] startOf = new int[ALL_STARTS];
    private final long[] globals = new long[GLOBALS];

    private final int[] classOf = new int[OBJECTS];
    private final long[] fields = new long[ALL_FIELDS];
    private final boolean[] taken = new boolean[OBJECTS];
    private final int[] found = new int[OBJECTS];
    private int takenCount;
    private int collectFrom;

    private final int[] dueOf = new int[FRAMES];
    private final int[] depthOf = new int[FRAMES];
    private final long[] locals = new long[ALL_LOCALS];
    private final long[] stacks = new long[ALL_STACK_PLACES];
    private int frameCount;
    private int latest;

    private final int[] kept = new int[KEPT_OUTPUT];
    private int outputCount;
    private int stepCount;
    private int madeCount;
    private int gaveSort;
    private int gaveNumber;

    public ManagedRuntime() {
        for (int c = 0; c < CLASSES; c++) {
            aboveOf[c] = NONE;
        }
        for (int i = 0; i < ALL_STARTS; i++) {
            startOf[i] = NONE;
        }
        collectFrom = collectFromAt(LEVELS - 1);
    }

    public boolean code(int i, int op, int n) {
        if (i < 0 || i >= INSTRUCTIONS || op < 0 || op >= OPS) {
            return false;
        }
        if (!operandFits(op, n)) {
            return false;
        }
        opAt[i] = op;
        operandAt[i] = n;
        return true;
    }

    public boolean above(int c, int a) {
        if (c < 0 || c >= CLASSES || a < NONE || a >= c) {
            return false;
        }
        aboveOf[c] = a;
        return true;
    }

    public boolean method(int c, int slot, int start) {
        if (c < 0 || c >= CLASSES || slot < 0 || slot >= SLOTS) {
            return false;
        }
        if (start < NONE || start >= INSTRUCTIONS) {
            return false;
        }
        startOf[c * SLOTS + slot] = start;
        return true;
    }

    public int run(int start, int a) {
        outputCount = 0;
        stepCount = 0;
        madeCount = 0;
        gaveSort = 0;
        gaveNumber = 0;
        long argument = intValue(a);
        enterFrame(start, NOTHING, argument);
        int ending = GOES_ON;
        // One round more than can work: the last one finds that the run is tired.
        for (int i = 0; i <= MOST_STEPS && ending == GOES_ON; i++) {
            ending = step();
        }
        frameCount = 0;
        return ending;
    }

    public int givenSort() {
        return gaveSort;
    }

    public int given() {
        return gaveNumber;
    }

    public int steps() {
        return stepCount;
    }

    public int made() {
        return madeCount;
    }

    public int printed() {
        return outputCount;
    }

    public int output(int k) {
        if (k < 0 || k >= outputCount || k >= KEPT_OUTPUT) {
            return 0;
        }
        return kept[k];
    }

    public int sort(int g, int path) {
        long value = valueAt(g, path);
        if (value < 0) {
            return (int) value;
        }
        return sortOf(value);
    }

    public int number(int g, int path) {
        long value = valueAt(g, path);
        if (value < 0) {
            return 0;
        }
        return numberOf(value);
    }

    public int needed() {
        collect();
        return takenCount;
    }

    public boolean clear(int g) {
        if (g < 0 || g >= GLOBALS) {
            return false;
        }
        globals[g] = NOTHING;
        return true;
    }

    public boolean level(int k) {
        if (k < 0 || k >= LEVELS) {
            return false;
        }
        collectFrom = collectFromAt(k);
        return true;
    }

    // The level says how late the collector works: at each NEW, once half of the
    // places are taken, or only once all are.
    private static int collectFromAt(int k) {
        return k * OBJECTS / (LEVELS - 1);
    }

    private static boolean operandFits(int op, int n) {
        switch (op) {
            case OP_LOAD:
            case OP_STORE:
                return n >= 0 && n < LOCALS;
            case OP_NEW:
            case OP_IS:
                return n >= 0 && n < CLASSES;
            case OP_CALL:
                return n >= 0 && n < SLOTS;
            case OP_TAKE:
            case OP_GIVE:
                return n >= 0 && n < GLOBALS;
            case OP_GET:
            case OP_PUT:
                return n >= 0 && n < FIELDS;
            default:
                return true;
        }
    }

    private static long intValue(int a) {
        return FIRST_INT | (a & LOWER_HALF);
    }

    private static int sortOf(long value) {
        return (int) (value >> SORT_SHIFT);
    }

    private int numberOf(long value) {
        if (value >= FIRST_OBJECT) {
            return classOf[(int) value];
        }
        return (int) value;
    }

    // BAD and NO_OBJECT can be told from a value, as no value is negative.
    private long valueAt(int g, int path) {
        if (g < 0 || g >= GLOBALS || path < 0 || path > MOST_PATH) {
            return BAD;
        }
        if (!hasLastDigit(path)) {
            return BAD;
        }
        long value = globals[g];
        for (int i = 0; i < PATH_DIGITS; i++) {
            int field = digit(path, i);
            if (field == LAST_DIGIT) {
                break;
            }
            if (value < FIRST_OBJECT) {
                return NO_OBJECT;
            }
            value = fields[(int) value * FIELDS + field];
        }
        return value;
    }

    private static boolean hasLastDigit(int path) {
        for (int i = 0; i < PATH_DIGITS; i++) {
            if (digit(path, i) == LAST_DIGIT) {
                return true;
            }
        }
        return false;
    }

    private static int digit(int path, int i) {
        return (path >> (2 * i)) & 3;
    }

    // The order of the tests is the document's order of endings; all of them come
    // before any change, as an instruction that can't work changes nothing.
    private int step() {
        int at = dueOf[latest];
        if (at < 0 || at >= INSTRUCTIONS) {
            return CODE;
        }
        if (stepCount >= MOST_STEPS) {
            return TIRED;
        }
        int op = opAt[at];
        int n = operandAt[at];
        if (!stackFits(op)) {
            return STACK;
        }
        if (!sortsFit(op)) {
            return SORT;
        }
        if (op == OP_NEW && isMemoryFull()) {
            return MEMORY;
        }
        if (op == OP_CALL && calledStart(n) == NONE) {
            return MISSING;
        }
        if (op == OP_CALL && frameCount >= FRAMES) {
            return DEEP;
        }
        stepCount++;
        dueOf[latest] = at + 1;
        return work(op, n);
    }

    private boolean stackFits(int op) {
        int depth = depthOf[latest];
        return depth >= takes(op) && (depth < STACK_PLACES || !leavesMore(op));
    }

    private static int takes(int op) {
        switch (op) {
            case OP_STORE:
            case OP_POP:
            case OP_DUP:
            case OP_ZERO:
            case OP_GET:
            case OP_IS:
            case OP_RETURN:
            case OP_GIVE:
            case OP_OUT:
                return 1;
            case OP_SWAP:
            case OP_ADD:
            case OP_SUB:
            case OP_MUL:
            case OP_LESS:
            case OP_SAME:
            case OP_PUT:
            case OP_CALL:
                return 2;
            default:
                return 0;
        }
    }

    // No RETURN fills a stack above its bound: CALL took two values from it before.
    private static boolean leavesMore(int op) {
        switch (op) {
            case OP_PUSH:
            case OP_EMPTY:
            case OP_LOAD:
            case OP_DUP:
            case OP_NEW:
            case OP_TAKE:
                return true;
            default:
                return false;
        }
    }

    private boolean sortsFit(int op) {
        switch (op) {
            case OP_ADD:
            case OP_SUB:
            case OP_MUL:
            case OP_LESS:
                return isInt(1) && isInt(2);
            case OP_ZERO:
            case OP_OUT:
                return isInt(1);
            case OP_GET:
                return isObject(1);
            case OP_PUT:
            case OP_CALL:
                return isObject(2);
            default:
                return true;
        }
    }

    private boolean isInt(int fromTop) {
        long value = valueFromTop(fromTop);
        return sortOf(value) == INT_SORT;
    }

    private boolean isObject(int fromTop) {
        return valueFromTop(fromTop) >= FIRST_OBJECT;
    }

    private long valueFromTop(int fromTop) {
        return stacks[latest * STACK_PLACES + depthOf[latest] - fromTop];
    }

    private boolean isMemoryFull() {
        if (takenCount >= collectFrom) {
            collect();
        }
        return takenCount >= OBJECTS;
    }

    // Frees every place and takes again those of the needed objects.
    private void collect() {
        takenCount = 0;
        for (int o = 0; o < OBJECTS; o++) {
            taken[o] = false;
        }
        for (int g = 0; g < GLOBALS; g++) {
            reach(globals[g]);
        }
        for (int i = 0; i < frameCount * LOCALS; i++) {
            reach(locals[i]);
        }
        for (int f = 0; f < frameCount; f++) {
            for (int i = 0; i < depthOf[f]; i++) {
                reach(stacks[f * STACK_PLACES + i]);
            }
        }
        // found grows while it is walked: it stands for the recursion over fields.
        for (int i = 0; i < OBJECTS && i < takenCount; i++) {
            for (int field = 0; field < FIELDS; field++) {
                reach(fields[found[i] * FIELDS + field]);
            }
        }
    }

    private void reach(long value) {
        if (value < FIRST_OBJECT || taken[(int) value]) {
            return;
        }
        taken[(int) value] = true;
        found[takenCount] = (int) value;
        takenCount++;
    }

    private int calledStart(int slot) {
        long receiver = valueFromTop(2);
        int c = classOf[(int) receiver];
        for (int i = 0; i < CLASSES && c != NONE; i++) {
            if (startOf[c * SLOTS + slot] != NONE) {
                return startOf[c * SLOTS + slot];
            }
            c = aboveOf[c];
        }
        return NONE;
    }

    private int work(int op, int n) {
        if (op == OP_STOP) {
            return ENDED;
        }
        if (op == OP_RETURN) {
            return leaveFrame();
        }
        if (op <= OP_SWAP) {
            moveValues(op, n);
        } else if (op <= OP_SAME) {
            calculate(op);
        } else if (op <= OP_ZERO) {
            jump(op, n);
        } else if (op <= OP_IS) {
            useObject(op, n);
        } else if (op == OP_CALL) {
            callMethod(n);
        } else {
            useOutside(op, n);
        }
        return GOES_ON;
    }

    private void moveValues(int op, int n) {
        if (op == OP_PUSH) {
            pushInt(n);
            return;
        }
        if (op == OP_EMPTY) {
            push(NOTHING);
            return;
        }
        if (op == OP_LOAD) {
            push(locals[latest * LOCALS + n]);
            return;
        }
        // For POP this is all.
        long value = pop();
        if (op == OP_STORE) {
            locals[latest * LOCALS + n] = value;
        } else if (op == OP_DUP) {
            push(value);
            push(value);
        } else if (op == OP_SWAP) {
            long under = pop();
            push(value);
            push(under);
        }
    }

    private void calculate(int op) {
        long w = pop();
        long v = pop();
        int b = (int) w;
        int a = (int) v;
        if (op == OP_ADD) {
            pushInt(a + b);
        } else if (op == OP_SUB) {
            pushInt(a - b);
        } else if (op == OP_MUL) {
            pushInt(a * b);
        } else if (op == OP_LESS) {
            pushInt(a < b ? 1 : 0);
        } else {
            pushInt(v == w ? 1 : 0);
        }
    }

    private void jump(int op, int n) {
        if (op == OP_JUMP || (int) pop() == 0) {
            dueOf[latest] = n;
        }
    }

    private void useObject(int op, int n) {
        if (op == OP_NEW) {
            makeObject(n);
            return;
        }
        long value = pop();
        if (op == OP_GET) {
            push(fields[(int) value * FIELDS + n]);
        } else if (op == OP_PUT) {
            int o = (int) pop();
            fields[o * FIELDS + n] = value;
        } else {
            boolean is = value >= FIRST_OBJECT && isOrIsBelow(classOf[(int) value], n);
            pushInt(is ? 1 : 0);
        }
    }

    // isMemoryFull came before, so there is a free place.
    private void makeObject(int c) {
        int place = 0;
        for (int o = 0; o < OBJECTS; o++) {
            if (!taken[o]) {
                place = o;
                break;
            }
        }
        taken[place] = true;
        takenCount++;
        classOf[place] = c;
        for (int field = 0; field < FIELDS; field++) {
            fields[place * FIELDS + field] = NOTHING;
        }
        madeCount++;
        push(FIRST_OBJECT + place);
    }

    private boolean isOrIsBelow(int c, int wanted) {
        int at = c;
        for (int i = 0; i < CLASSES && at != NONE; i++) {
            if (at == wanted) {
                return true;
            }
            at = aboveOf[at];
        }
        return false;
    }

    private void callMethod(int slot) {
        int start = calledStart(slot);
        long value = pop();
        long receiver = pop();
        enterFrame(start, receiver, value);
    }

    private void useOutside(int op, int n) {
        if (op == OP_TAKE) {
            push(globals[n]);
            return;
        }
        long value = pop();
        if (op == OP_GIVE) {
            globals[n] = value;
            return;
        }
        // Ints that output never answers are counted and not kept.
        if (outputCount < KEPT_OUTPUT) {
            kept[outputCount] = (int) value;
        }
        outputCount++;
    }

    private void enterFrame(int start, long first, long second) {
        latest = frameCount;
        frameCount++;
        dueOf[latest] = start;
        depthOf[latest] = 0;
        locals[latest * LOCALS] = first;
        locals[latest * LOCALS + 1] = second;
        locals[latest * LOCALS + 2] = NOTHING;
        locals[latest * LOCALS + 3] = NOTHING;
    }

    private int leaveFrame() {
        long value = pop();
        frameCount--;
        if (frameCount > 0) {
            latest = frameCount - 1;
            push(value);
            return GOES_ON;
        }
        gaveSort = sortOf(value);
        gaveNumber = numberOf(value);
        return ENDED;
    }

    private void pushInt(int a) {
        long value = intValue(a);
        push(value);
    }

    private void push(long value) {
        stacks[latest * STACK_PLACES + depthOf[latest]] = value;
        depthOf[latest]++;
    }

    private long pop() {
        depthOf[latest]--;
        return stacks[latest * STACK_PLACES + depthOf[latest]];
    }
}

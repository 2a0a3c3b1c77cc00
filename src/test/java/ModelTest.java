/**
 * Compares ManagedRuntime with Model over many runs of calls. The calls come from a fixed sequence
 * of numbers, so that the test is the same each time.
 */
public final class ModelTest {
    private static final int OBJECTS = 6000;
    private static final int CALLS = 512;
    private static final int[] EDGES = {Integer.MIN_VALUE, -2, -1, 3, 4, 19, 20, 23, 24, 59, 60, 65535, 65536, Integer.MAX_VALUE};

    private final Due due;
    private final String name;
    private final int[] endings;
    private final ManagedRuntime x = new ManagedRuntime();
    private final Model model = new Model();
    private long state;
    private int calls;

    private ModelTest(Due due, int number, int[] endings) {
        this.due = due;
        this.name = "object " + number;
        this.endings = endings;
        this.state = number * 0x9E3779B97F4A7C15L + 1;
    }

    public static void main(String[] args) {
        Due due = new Due();
        int[] endings = new int[8];
        for (int i = 0; i < OBJECTS && due.wrong() < 20; i++) {
            new ModelTest(due, i, endings).go();
        }
        for (int e = 0; e < 8; e++) {
            System.out.println("ending " + e + ": " + endings[e] + " runs");
            due.yes("ending " + e + " is seen often", endings[e] >= 300);
        }
        due.end();
    }

    private int below(int bound) {
        state = state * 6364136223846793005L + 1442695040888963407L;
        return (int) ((state >>> 33) % bound);
    }

    private boolean oneIn(int n) {
        return below(n) == 0;
    }

    private int oneOf(int... choices) {
        return choices[below(choices.length)];
    }

    /** A number from low to high, or now and then one outside. */
    private int near(int low, int high) {
        return oneIn(25) ? EDGES[below(EDGES.length)] : low + below(high - low + 1);
    }

    private void same(String call, long got, long want) {
        calls++;
        due.is(name + ", call " + calls + ", " + call, got, want);
    }

    private void same(String call, boolean got, boolean want) {
        same(call, got ? 1 : 0, want ? 1 : 0);
    }

    private void go() {
        setClasses();
        int kind = below(4);
        if (kind == 0) {
            fillWithSense();
        } else if (kind == 1) {
            fillWithBuilder();
        } else {
            fillWithStatements();
        }
        // A round has at most 21 calls, and what comes after the 512th is free.
        while (calls <= CALLS - 21) {
            change();
            int start = oneIn(6) ? near(0, 59) : 0;
            int a = oneIn(2) ? below(30) : near(-3, 3);
            int ending = x.run(start, a);
            same("run(" + start + ", " + a + ")", ending, model.run(start, a));
            if (ending >= 0 && ending < 8) {
                endings[ending]++;
            }
            askAll();
        }
    }

    private void setClasses() {
        for (int c = 1; c < 4; c++) {
            setAbove(c, near(-1, c - 1));
        }
        for (int k = below(6); k >= 0; k--) {
            setMethod(near(0, 3), near(0, 3), near(-1, 59));
        }
    }

    private void setAbove(int c, int a) {
        same("above(" + c + ", " + a + ")", x.above(c, a), model.above(c, a));
    }

    private void setMethod(int c, int slot, int start) {
        same("method(" + c + ", " + slot + ", " + start + ")", x.method(c, slot, start), model.method(c, slot, start));
    }

    private void setCode(int i, int op, int n) {
        same("code(" + i + ", " + op + ", " + n + ")", x.code(i, op, n), model.code(i, op, n));
    }

    /** Code that keeps in mind how many values are on the stack, so that runs last. */
    private void fillWithSense() {
        String takes = "000011122222201012121011";
        String leaves = "011100221111100110100100";
        int depth = 0;
        for (int i = 0; i < 60; i++) {
            int op = oneIn(60) ? below(24) : sensibleOp(depth);
            setCode(i, op, operand(op, i));
            depth += leaves.charAt(op) - takes.charAt(op);
            depth = Math.max(0, Math.min(6, depth));
        }
    }

    private int sensibleOp(int depth) {
        if (depth == 0) {
            return oneOf(Op.PUSH, Op.LOAD, Op.NEW, Op.NEW, Op.TAKE, Op.EMPTY, Op.JUMP);
        }
        if (depth == 1) {
            return oneOf(Op.PUSH, Op.LOAD, Op.NEW, Op.NEW, Op.TAKE, Op.STORE, Op.GIVE, Op.DUP, Op.GET, Op.IS, Op.OUT,
                Op.ZERO, Op.RETURN, Op.POP, Op.STORE, Op.GIVE);
        }
        if (depth < 5) {
            return oneOf(Op.NEW, Op.LOAD, Op.PUSH, Op.SWAP, Op.ADD, Op.SUB, Op.MUL, Op.LESS, Op.SAME, Op.PUT, Op.PUT, Op.CALL,
                Op.CALL, Op.STORE, Op.GIVE, Op.POP, Op.OUT, Op.ZERO);
        }
        return oneOf(Op.POP, Op.STORE, Op.GIVE, Op.SAME, Op.PUT, Op.CALL, Op.OUT);
    }

    private int operand(int op, int i) {
        switch (op) {
            case Op.PUSH:
                return oneIn(4) ? near(-100, 100) : below(3);
            case Op.JUMP: case Op.ZERO:
                return oneIn(4) ? near(0, 59) : i + 1 + below(4);
            case Op.GET: case Op.PUT:
                return below(3);
            default:
                return oneIn(60) ? near(0, 3) : below(4);
        }
    }

    /** A loop that makes objects and ties them to others in changing ways, until local 1 is 0. */
    private void fillWithBuilder() {
        int c = below(4);
        int g = below(4);
        int[] body = {
            Op.NEW, c, Op.DUP, 0, Op.TAKE, g, Op.PUT, below(3), Op.GIVE, g,
            Op.NEW, below(4), Op.STORE, oneOf(0, 2, 3), Op.TAKE, g, Op.LOAD, oneOf(0, 2, 3), Op.PUT, below(3),
            Op.LOAD, 1, Op.PUSH, 1, Op.SUB, 0, Op.DUP, 0, Op.STORE, 1, Op.ZERO, 24,
            Op.TAKE, g, Op.LOAD, oneOf(0, 1, 1, 1, 2, 3), Op.CALL, below(4), Op.POP, 0, Op.JUMP, 0,
        };
        for (int i = 0; i < body.length / 2; i++) {
            setCode(i, body[2 * i], body[2 * i + 1]);
        }
        setCode(24, Op.TAKE, g);
        setCode(25, Op.RETURN, 0);
        int[] method = {Op.LOAD, below(4), Op.OUT, 0, Op.NEW, c, Op.NEW, below(4), Op.LOAD, 0, oneOf(Op.RETURN, Op.POP), 0, Op.RETURN, 0};
        for (int i = 0; i < method.length / 2; i++) {
            setCode(30 + i, method[2 * i], method[2 * i + 1]);
        }
        for (int slot = 0; slot < 4; slot++) {
            setMethod(below(4), slot, oneOf(0, 10, 30, 30, 30, 32, 32));
        }
    }

    /** Statements that begin and end with an empty stack, and jumps and methods that lead to their beginnings. */
    private void fillWithStatements() {
        int[] starts = new int[60];
        int[][] statements = new int[60][];
        int count = 0;
        int next = 0;
        while (next < 54) {
            statements[count] = count < 2 ? new int[] {Op.NEW, below(4), Op.STORE, 2 + count} : statement();
            starts[count] = next;
            next += statements[count].length / 2;
            count++;
        }
        for (int s = 0; s < count; s++) {
            for (int k = 0; k < statements[s].length; k += 2) {
                int op = statements[s][k];
                boolean leads = op == Op.JUMP || op == Op.ZERO;
                setCode(starts[s] + k / 2, op, leads ? starts[below(count)] : statements[s][k + 1]);
            }
        }
        for (int slot = 0; slot < 4; slot++) {
            setMethod(oneIn(2) ? 0 : below(4), slot, oneIn(2) ? 0 : starts[below(count)]);
        }
    }

    private int[] statement() {
        int object = 2 + below(2);
        int any = below(4);
        int f = below(3);
        int g = below(4);
        switch (below(16)) {
            case 0: return new int[] {Op.NEW, g, Op.STORE, object};
            case 1: return new int[] {Op.NEW, below(4), Op.GIVE, g};
            case 2: return new int[] {Op.LOAD, object, Op.LOAD, any, Op.PUT, f};
            case 3: return new int[] {Op.LOAD, object, Op.TAKE, g, Op.PUT, f};
            case 4: return new int[] {Op.NEW, below(4), Op.DUP, 0, Op.TAKE, g, Op.PUT, f, Op.GIVE, g};
            case 5: return new int[] {Op.NEW, below(4), Op.DUP, 0, Op.LOAD, object, Op.PUT, f, Op.STORE, object};
            case 6: return new int[] {Op.LOAD, 1, Op.PUSH, 1, Op.SUB, 0, Op.DUP, 0, Op.STORE, 1, Op.ZERO, 0};
            case 7: return new int[] {Op.JUMP, 0};
            case 8: return new int[] {Op.LOAD, object, Op.LOAD, 1, Op.CALL, g, Op.GIVE, below(4)};
            case 9: return new int[] {Op.LOAD, object, Op.LOAD, 1, Op.CALL, g, Op.POP, 0};
            case 10: return new int[] {Op.LOAD, 1, Op.OUT, 0, Op.LOAD, any, Op.IS, g, Op.OUT, 0};
            case 11: return new int[] {Op.LOAD, object, Op.GET, f, Op.GIVE, g};
            case 12: return new int[] {Op.LOAD, any, Op.TAKE, g, Op.SAME, 0, Op.ZERO, 0};
            case 13: return new int[] {Op.LOAD, any, Op.RETURN, 0};
            case 14: return new int[] {Op.NEW, g, Op.NEW, g, Op.NEW, g, Op.SWAP, 0, Op.PUT, f, Op.GIVE, g};
            default: return new int[] {Op.LOAD, 1, Op.PUSH, 1 + f, Op.MUL, 0, Op.PUSH, g, Op.ADD, 0, Op.STORE, 1};
        }
    }

    private void change() {
        for (int k = oneIn(4) ? below(4) : 0; k > 0; k--) {
            int op = near(0, 23);
            setCode(near(0, 59), op, operand(op, below(60)));
        }
        if (oneIn(3)) {
            int g = near(0, 3);
            same("clear(" + g + ")", x.clear(g), model.clear(g));
        }
        if (oneIn(3)) {
            int k = near(0, 2);
            same("level(" + k + ")", x.level(k), k >= 0 && k <= 2);
        }
        if (oneIn(5)) {
            setMethod(near(0, 3), near(0, 3), near(-1, 59));
        }
        if (oneIn(8)) {
            setAbove(near(0, 3), near(-1, 2));
        }
    }

    private void askAll() {
        same("givenSort()", x.givenSort(), Model.sortOf(model.given));
        same("given()", x.given(), Model.numberOf(model.given));
        same("steps()", x.steps(), model.steps);
        same("made()", x.made(), model.made);
        same("printed()", x.printed(), model.output.size());
        if (oneIn(2)) {
            same("needed()", x.needed(), model.needed());
        }
        int k = oneIn(2) ? below(3) : near(0, 19);
        same("output(" + k + ")", x.output(k), model.output(k));
        for (int i = 0; i < 3; i++) {
            int g = near(0, 3);
            int path = oneIn(10) ? near(0, 65535) : path();
            same("sort(" + g + ", " + path + ")", x.sort(g, path), model.sort(g, path));
            same("number(" + g + ", " + path + ")", x.number(g, path), model.number(g, path));
        }
    }

    private int path() {
        int path = 3;
        for (int k = below(oneIn(2) ? 3 : 8); k > 0; k--) {
            path = path * 4 + below(3);
        }
        return path;
    }
}

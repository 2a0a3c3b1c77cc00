/** Promises 10 and 11: the output. */
public final class Promise10OutputTest {
    public static void main(String[] args) {
        Due due = new Due();
        few(due);
        many(due);
        due.end();
    }

    private static void few(Due due) {
        ManagedRuntime x = Program.of(Op.PUSH, -5, Op.OUT, 0, Op.LOAD, 1, Op.OUT, 0, Op.EMPTY, 0, Op.OUT, 0);
        due.is("printed before", x.printed(), 0);
        due.is("OUT of nothing", x.run(0, Integer.MIN_VALUE), ManagedRuntime.SORT);
        due.is("printed", x.printed(), 2);
        due.is("output(0)", x.output(0), -5);
        due.is("output(1)", x.output(1), Integer.MIN_VALUE);
        for (int k : new int[] {2, 19, 20, -1, Integer.MIN_VALUE, Integer.MAX_VALUE}) {
            due.is("output(" + k + ")", x.output(k), 0);
        }
        x.code(6, Op.PUSH, 3);
        x.code(7, Op.OUT, 0);
        x.run(6, 0);
        due.is("printed by the latest run", x.printed(), 1);
        due.is("its output(0)", x.output(0), 3);
        due.is("its output(1)", x.output(1), 0);
        x.run(60, 0);
        due.is("printed by a run that failed at once", x.printed(), 0);
        due.is("its output(0)", x.output(0), 0);
    }

    private static void many(Due due) {
        ManagedRuntime x = Program.of(Op.LOAD, 1, Op.OUT, 0, Op.LOAD, 1, Op.PUSH, 1, Op.ADD, 0, Op.STORE, 1, Op.JUMP, 0);
        x.run(0, 100);
        due.is("printed above 20", x.printed(), 43);
        for (int k = 0; k < 20; k++) {
            due.is("output(" + k + ")", x.output(k), 100 + k);
        }
        for (int k : new int[] {20, 21, 42, 43, -1}) {
            due.is("output(" + k + ")", x.output(k), 0);
        }
        Program.put(x, 20, Op.LOAD, 1, Op.OUT, 0, Op.JUMP, 20);
        x.run(20, 4);
        due.is("printed", x.printed(), 100);
        for (int i = 0; i < 58; i += 2) {
            Program.put(x, i, Op.LOAD, 1, Op.OUT, 0);
        }
        Program.put(x, 58, Op.JUMP, 0);
        x.run(0, 6);
        // Five rounds of 59 steps, and two outputs in the five steps left.
        due.is("printed by as many OUT as fit", x.printed(), 147);
        due.is("output(19)", x.output(19), 6);
        due.is("output(20)", x.output(20), 0);
    }
}

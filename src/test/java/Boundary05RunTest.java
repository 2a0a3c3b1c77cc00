/** The boundary cases of promise 5. */
public final class Boundary05RunTest {
    private static final int MIN = Integer.MIN_VALUE;
    private static final int MAX = Integer.MAX_VALUE;

    public static void main(String[] args) {
        Due due = new Due();
        due.sentence("the output is made empty", Boundary05RunTest::outputIsMadeEmpty);
        due.sentence("one frame, due at instruction start (any int)", Boundary05RunTest::anyStart);
        due.sentence("with local 0 nothing, local 1 the int a, 2 and 3 nothing", Boundary05RunTest::locals);
        due.sentence("Answers how it ended", Boundary05RunTest::howItEnded);
        due.end();
    }

    private static void outputIsMadeEmpty(Due due) {
        // What each run prints, where it begins, and how it ends.
        ManagedRuntime x = Program.of(Op.PUSH, 5, Op.OUT, 0, Op.PUSH, 6, Op.OUT, 0, Op.STOP, 0);
        Program.put(x, 20, Op.POP, 0, Op.EMPTY, 0, Op.OUT, 0);
        int[] starts = {60, -1, 4, 20, 21};
        int[] endings = {ManagedRuntime.CODE, ManagedRuntime.CODE, ManagedRuntime.ENDED, ManagedRuntime.STACK, ManagedRuntime.SORT};
        for (int k = 0; k < starts.length; k++) {
            x.run(0, 0);
            due.is("printed", x.printed(), 2);
            due.is("output(1)", x.output(1), 6);
            due.is("run at " + starts[k], x.run(starts[k], 0), endings[k]);
            due.is("printed after it", x.printed(), 0);
            due.is("output(0) after it", x.output(0), 0);
            due.is("output(1) after it", x.output(1), 0);
        }
        x.run(0, 0);
        x.run(2, 0);
        due.is("printed by a shorter run", x.printed(), 1);
        due.is("its output(0)", x.output(0), 6);
        due.is("its output(1)", x.output(1), 0);
    }

    private static void anyStart(Due due) {
        ManagedRuntime x = new ManagedRuntime();
        for (int i = 0; i < 60; i++) {
            x.code(i, Op.PUSH, i);
        }
        x.code(1, Op.RETURN, 0);
        x.code(59, Op.RETURN, 0);
        due.is("start 0", x.run(0, 0), ManagedRuntime.ENDED);
        due.is("given", x.given(), 0);
        due.is("its sort", x.givenSort(), 1);
        due.is("start 58", x.run(58, 0), ManagedRuntime.ENDED);
        due.is("given", x.given(), 58);
        due.is("start 59", x.run(59, 0), ManagedRuntime.STACK);
        for (int start : new int[] {MIN, MIN + 1, -60, -1, 60, 61, MAX - 1, MAX}) {
            due.is("start " + start, x.run(start, 0), ManagedRuntime.CODE);
            due.is("steps", x.steps(), 0);
            due.is("givenSort", x.givenSort(), 0);
        }
    }

    private static void locals(Due due) {
        for (int a : new int[] {MIN, -1, 0, 1, MAX}) {
            // The run before leaves objects in all locals and on its stack.
            ManagedRuntime x = new ManagedRuntime();
            Program.put(x, 20, Op.NEW, 0, Op.DUP, 0, Op.STORE, 0, Op.DUP, 0, Op.STORE, 1, Op.DUP, 0, Op.STORE, 2, Op.DUP, 0, Op.STORE, 3);
            for (int n = 0; n < 4; n++) {
                x.run(20, 0);
                Program.put(x, 0, Op.LOAD, n, Op.RETURN, 0);
                due.is("run", x.run(0, a), ManagedRuntime.ENDED);
                due.is("sort of local " + n, x.givenSort(), n == 1 ? 1 : 0);
                due.is("local " + n, x.given(), n == 1 ? a : 0);
            }
            x.run(20, 0);
            x.code(0, Op.POP, 0);
            due.is("an empty stack", x.run(0, a), ManagedRuntime.STACK);
        }
    }

    private static void howItEnded(Due due) {
        ManagedRuntime x = new ManagedRuntime();
        Program.put(x, 10, Op.JUMP, 10);
        Program.put(x, 11, Op.POP, 0);
        Program.put(x, 12, Op.EMPTY, 0, Op.GET, 0);
        Program.put(x, 20, Op.NEW, 0, Op.EMPTY, 0, Op.CALL, 0);
        Program.put(x, 30, Op.NEW, 1, Op.EMPTY, 0, Op.CALL, 0);
        x.method(1, 0, 30);
        Program.keep(x, 6);
        // Each frame of the last one keeps an object, so ten frames and six objects fill the memory.
        int[] starts = {59, 60, 10, 11, 12, 20, 30};
        int[] endings = {ManagedRuntime.ENDED, ManagedRuntime.CODE, ManagedRuntime.TIRED, ManagedRuntime.STACK, ManagedRuntime.SORT,
            ManagedRuntime.MISSING, ManagedRuntime.DEEP};
        for (int k = 0; k < starts.length; k++) {
            due.is("run at " + starts[k], x.run(starts[k], 0), endings[k]);
        }
        Program.keep(x, 1);
        due.is("run at 30 beside one object more", x.run(30, 0), ManagedRuntime.MEMORY);
    }
}

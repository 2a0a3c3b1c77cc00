/** Promise 5: how a run begins and how it ends, with the order in which endings apply. */
public final class Promise05RunTest {
    public static void main(String[] args) {
        Due due = new Due();
        firstFrame(due);
        codeEnding(due);
        tiredEnding(due);
        stackEnding(due);
        sortEnding(due);
        memoryEnding(due);
        missingAndDeepEnding(due);
        due.end();
    }

    private static void firstFrame(Due due) {
        for (int n = 0; n < 4; n++) {
            ManagedRuntime x = Program.of(Op.LOAD, n, Op.RETURN, 0);
            due.is("run", x.run(0, -9), ManagedRuntime.ENDED);
            due.is("sort of local " + n, x.givenSort(), n == 1 ? 1 : 0);
            due.is("local " + n, x.given(), n == 1 ? -9 : 0);
        }
        ManagedRuntime x = Program.of(Op.PUSH, 4, Op.DUP, 0, Op.STORE, 0, Op.DUP, 0, Op.STORE, 2, Op.STORE, 3);
        x.run(0, 0);
        for (int n : new int[] {0, 2, 3}) {
            Program.put(x, 0, Op.LOAD, n, Op.RETURN, 0);
            x.run(0, 0);
            due.is("local " + n + " in the next run", x.givenSort(), 0);
        }
        ManagedRuntime y = Program.of(Op.PUSH, 1, Op.PUSH, 2);
        y.run(0, 0);
        y.code(0, Op.POP, 0);
        due.is("the next run's stack is empty", y.run(0, 0), ManagedRuntime.STACK);
    }

    private static void codeEnding(Due due) {
        ManagedRuntime x = new ManagedRuntime();
        for (int start : new int[] {-1, 60, Integer.MIN_VALUE, Integer.MAX_VALUE}) {
            due.is("run at " + start, x.run(start, 0), ManagedRuntime.CODE);
            due.is("steps at " + start, x.steps(), 0);
            x.code(0, Op.JUMP, start);
            due.is("jump to " + start, x.run(0, 0), ManagedRuntime.CODE);
            due.is("steps of the jump", x.steps(), 1);
        }
        x.code(59, Op.PUSH, 1);
        due.is("past the end", x.run(59, 0), ManagedRuntime.CODE);
        due.is("steps past the end", x.steps(), 1);
        Program.put(x, 57, Op.NEW, 0, Op.EMPTY, 0, Op.CALL, 0);
        Program.put(x, 10, Op.EMPTY, 0, Op.RETURN, 0);
        x.method(0, 0, 10);
        due.is("back behind a call at 59", x.run(57, 0), ManagedRuntime.CODE);
        due.is("its steps", x.steps(), 5);
    }

    // Goes around as often as local 1 says, 7 steps each, then with 2 steps more to 10.
    private static ManagedRuntime counting() {
        return Program.of(
            Op.LOAD, 1, Op.ZERO, 10, Op.LOAD, 1, Op.PUSH, 1, Op.SUB, 0, Op.STORE, 1, Op.JUMP, 0);
    }

    private static void tiredEnding(Due due) {
        ManagedRuntime x = Program.of(Op.JUMP, 0);
        due.is("an endless loop", x.run(0, 0), ManagedRuntime.TIRED);
        due.is("its steps", x.steps(), 300);
        // 42 rounds and the way out are 296 steps.
        ManagedRuntime y = counting();
        Program.put(y, 10, Op.PUSH, 1, Op.POP, 0, Op.PUSH, 1, Op.STOP, 0);
        due.is("STOP as step 300", y.run(0, 42), ManagedRuntime.ENDED);
        due.is("its steps", y.steps(), 300);
        y.code(13, Op.RETURN, 0);
        due.is("RETURN as step 300", y.run(0, 42), ManagedRuntime.ENDED);
        due.is("it gave", y.givenSort(), 1);
        Program.put(y, 13, Op.POP, 0, Op.STOP, 0);
        due.is("STOP as step 301", y.run(0, 42), ManagedRuntime.TIRED);
        due.is("its steps", y.steps(), 300);
        y.code(14, Op.POP, 0);
        due.is("TIRED before STACK", y.run(0, 42), ManagedRuntime.TIRED);
        y.code(13, Op.JUMP, 60);
        due.is("CODE before TIRED", y.run(0, 42), ManagedRuntime.CODE);
        due.is("its steps", y.steps(), 300);
        due.is("43 rounds", y.run(0, 43), ManagedRuntime.TIRED);
    }

    private static void stackEnding(Due due) {
        int[] takes = {0, 0, 0, 0, 1, 1, 1, 2, 2, 2, 2, 2, 2, 0, 1, 0, 1, 2, 1, 2, 1, 0, 1, 1};
        for (int op = 0; op < 24; op++) {
            ManagedRuntime x = new ManagedRuntime();
            // A value of the wrong sort below: STACK comes before SORT.
            Program.put(x, 0, Op.EMPTY, 0, op, operand(op));
            due.is("op " + op + " on an empty stack", x.run(1, 0) == ManagedRuntime.STACK ? 1 : 0, takes[op] > 0 ? 1 : 0);
            due.is("op " + op + " on one value", x.run(0, 0) == ManagedRuntime.STACK ? 1 : 0, takes[op] > 1 ? 1 : 0);
        }
        for (int op = 0; op < 24; op++) {
            ManagedRuntime x = new ManagedRuntime();
            for (int i = 0; i < 6; i++) {
                x.code(i, Op.PUSH, i);
            }
            x.code(6, op, operand(op));
            boolean grows = op == Op.PUSH || op == Op.EMPTY || op == Op.LOAD || op == Op.DUP || op == Op.NEW || op == Op.TAKE;
            due.is("op " + op + " on a full stack", x.run(0, 0) == ManagedRuntime.STACK ? 1 : 0, grows ? 1 : 0);
            due.yes("it did not work", !grows || x.steps() == 6);
            x.code(6, Op.STOP, 0);
            due.is("six values fit", x.run(0, 0), ManagedRuntime.ENDED);
        }
    }

    // A jump goes to a STOP, so that it ends there and not in its own loop.
    private static int operand(int op) {
        return op == Op.JUMP || op == Op.ZERO ? 30 : 0;
    }

    private static void sortEnding(Due due) {
        // The sorts of v and w, lower first: 0 nothing, 1 an int, 2 an object.
        int[] push = {Op.EMPTY, Op.PUSH, Op.NEW};
        for (int v = 0; v < 3; v++) {
            for (int w = 0; w < 3; w++) {
                for (int op = 0; op < 24; op++) {
                    ManagedRuntime x = Program.of(push[v], 0, push[w], 0, op, operand(op));
                    boolean wrong = wrongSorts(op, v, w);
                    int ended = x.run(0, 0);
                    due.is("op " + op + " on " + v + " " + w, ended == ManagedRuntime.SORT ? 1 : 0, wrong ? 1 : 0);
                    due.yes("steps of op " + op, !wrong || x.steps() == 2);
                }
            }
        }
    }

    private static boolean wrongSorts(int op, int v, int w) {
        switch (op) {
            case Op.ADD: case Op.SUB: case Op.MUL: case Op.LESS:
                return v != 1 || w != 1;
            case Op.ZERO: case Op.OUT:
                return w != 1;
            case Op.GET:
                return w != 2;
            case Op.PUT: case Op.CALL:
                return v != 2;
            default:
                return false;
        }
    }

    private static void memoryEnding(Due due) {
        // Each round puts a new object, with the former one in field 0, into global 0.
        ManagedRuntime x = Program.of(
            Op.NEW, 0, Op.DUP, 0, Op.TAKE, 0, Op.PUT, 0, Op.GIVE, 0, Op.JUMP, 0);
        due.is("a 17th needed object", x.run(0, 0), ManagedRuntime.MEMORY);
        due.is("made", x.made(), 16);
        due.is("steps", x.steps(), 96);
        due.is("needed", x.needed(), 16);
        due.is("again", x.run(0, 0), ManagedRuntime.MEMORY);
        due.is("nothing worked", x.steps(), 0);
        Program.put(x, 10, Op.PUSH, 0, Op.DUP, 0, Op.DUP, 0, Op.DUP, 0, Op.DUP, 0, Op.DUP, 0, Op.NEW, 0);
        due.is("STACK before MEMORY", x.run(10, 0), ManagedRuntime.STACK);
        Program.put(x, 20, Op.EMPTY, 0, Op.GIVE, 0, Op.NEW, 0, Op.STOP, 0);
        due.is("the last global goes", x.run(20, 0), ManagedRuntime.ENDED);
        due.is("made after that", x.made(), 1);
    }

    private static void missingAndDeepEnding(Due due) {
        ManagedRuntime x = Program.of(Op.NEW, 2, Op.LOAD, 1, Op.CALL, 1);
        due.is("no start", x.run(0, 0), ManagedRuntime.MISSING);
        due.is("steps", x.steps(), 2);
        x.method(2, 1, 0);
        due.is("an 11th frame", x.run(0, 0), ManagedRuntime.DEEP);
        due.is("steps of ten frames", x.steps(), 29);
        due.is("frames went", x.run(0, 0), ManagedRuntime.DEEP);
        due.is("steps again", x.steps(), 29);
        // Each frame's int is less by 1; the one with 0 calls in slot 2, where no start is.
        ManagedRuntime y = Program.of(
            Op.NEW, 0, Op.LOAD, 1, Op.ZERO, 8, Op.LOAD, 1, Op.PUSH, 1, Op.SUB, 0, Op.CALL, 1, Op.RETURN, 0,
            Op.EMPTY, 0, Op.CALL, 2);
        y.method(0, 1, 0);
        due.is("MISSING before DEEP", y.run(0, 9), ManagedRuntime.MISSING);
        due.is("DEEP with one more", y.run(0, 10), ManagedRuntime.DEEP);
        Program.put(y, 8, Op.PUSH, 0, Op.PUSH, 0, Op.CALL, 2);
        due.is("SORT before DEEP", y.run(0, 9), ManagedRuntime.SORT);
        Program.put(y, 8, Op.PUSH, 5, Op.RETURN, 0);
        due.is("ten frames fit", y.run(0, 9), ManagedRuntime.ENDED);
        due.is("given through ten frames", y.given(), 5);
    }
}

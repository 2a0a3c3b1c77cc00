/** The table of instructions in the document's section "Terms", which promise 5 runs. */
public final class InstructionsTest {
    private static final int MIN = Integer.MIN_VALUE;
    private static final int MAX = Integer.MAX_VALUE;

    public static void main(String[] args) {
        Due due = new Due();
        stackMoves(due);
        arithmetic(due);
        same(due);
        jumps(due);
        objects(due);
        is(due);
        calls(due);
        globals(due);
        due.end();
    }

    private static void gives(Due due, String what, int want, int... pairs) {
        ManagedRuntime x = Program.of(pairs);
        due.is(what + ": run", x.run(0, 3), ManagedRuntime.ENDED);
        due.is(what + ": sort", x.givenSort(), 1);
        due.is(what, x.given(), want);
    }

    private static void stackMoves(Due due) {
        gives(due, "PUSH", MIN, Op.PUSH, MIN, Op.RETURN, 0);
        gives(due, "LOAD", 3, Op.LOAD, 1, Op.RETURN, 0);
        for (int n = 0; n < 4; n++) {
            gives(due, "STORE " + n, 8, Op.PUSH, 8, Op.STORE, n, Op.LOAD, n, Op.RETURN, 0);
        }
        gives(due, "STORE takes", 1, Op.PUSH, 1, Op.PUSH, 2, Op.STORE, 0, Op.RETURN, 0);
        gives(due, "POP", 1, Op.PUSH, 1, Op.PUSH, 2, Op.POP, 0, Op.RETURN, 0);
        gives(due, "DUP", 10, Op.PUSH, 5, Op.DUP, 0, Op.ADD, 0, Op.RETURN, 0);
        gives(due, "SWAP", 5, Op.PUSH, 2, Op.PUSH, 7, Op.SWAP, 0, Op.SUB, 0, Op.RETURN, 0);
        gives(due, "SWAP leaves the rest", 1, Op.PUSH, 1, Op.PUSH, 2, Op.PUSH, 3, Op.SWAP, 0, Op.POP, 0, Op.POP, 0, Op.RETURN, 0);
        ManagedRuntime x = Program.of(Op.EMPTY, 9, Op.RETURN, 0);
        x.run(0, 0);
        due.is("EMPTY", x.givenSort(), 0);
        ManagedRuntime y = Program.of(Op.PUSH, 1, Op.STOP, 0);
        due.is("STOP", y.run(0, 0), ManagedRuntime.ENDED);
        due.is("STOP gives no value", y.givenSort(), 0);
        due.is("STOP is a step", y.steps(), 2);
    }

    private static void arithmetic(Due due) {
        int[] edges = {MIN, MIN + 1, -65536, -3, -1, 0, 1, 2, 46341, 65536, MAX - 1, MAX};
        for (int a : edges) {
            for (int b : edges) {
                String on = " on " + a + " " + b;
                gives(due, "ADD" + on, a + b, Op.PUSH, a, Op.PUSH, b, Op.ADD, 0, Op.RETURN, 0);
                gives(due, "SUB" + on, a - b, Op.PUSH, a, Op.PUSH, b, Op.SUB, 0, Op.RETURN, 0);
                gives(due, "MUL" + on, a * b, Op.PUSH, a, Op.PUSH, b, Op.MUL, 0, Op.RETURN, 0);
                gives(due, "LESS" + on, a < b ? 1 : 0, Op.PUSH, a, Op.PUSH, b, Op.LESS, 0, Op.RETURN, 0);
                gives(due, "SAME" + on, a == b ? 1 : 0, Op.PUSH, a, Op.PUSH, b, Op.SAME, 0, Op.RETURN, 0);
            }
        }
    }

    private static void same(Due due) {
        gives(due, "nothing, nothing", 1, Op.EMPTY, 0, Op.EMPTY, 0, Op.SAME, 0, Op.RETURN, 0);
        gives(due, "nothing, 0", 0, Op.EMPTY, 0, Op.PUSH, 0, Op.SAME, 0, Op.RETURN, 0);
        gives(due, "0, nothing", 0, Op.PUSH, 0, Op.EMPTY, 0, Op.SAME, 0, Op.RETURN, 0);
        gives(due, "an object, itself", 1, Op.NEW, 1, Op.DUP, 0, Op.SAME, 0, Op.RETURN, 0);
        gives(due, "two objects", 0, Op.NEW, 1, Op.NEW, 1, Op.SAME, 0, Op.RETURN, 0);
        gives(due, "an object, nothing", 0, Op.NEW, 0, Op.EMPTY, 0, Op.SAME, 0, Op.RETURN, 0);
        for (int a = -2; a < 17; a++) {
            gives(due, "an object, " + a, 0, Op.NEW, 0, Op.PUSH, a, Op.SAME, 0, Op.RETURN, 0);
        }
    }

    private static void jumps(Due due) {
        gives(due, "JUMP", 2, Op.JUMP, 3, Op.PUSH, 1, Op.RETURN, 0, Op.PUSH, 2, Op.RETURN, 0);
        for (int a : new int[] {MIN, -1, 0, 1, MAX}) {
            gives(due, "ZERO on " + a, a == 0 ? 2 : 1,
                Op.PUSH, a, Op.ZERO, 4, Op.PUSH, 1, Op.RETURN, 0, Op.PUSH, 2, Op.RETURN, 0);
        }
        gives(due, "ZERO takes, also if it does not jump", 9,
            Op.PUSH, 9, Op.PUSH, 1, Op.ZERO, 5, Op.RETURN, 0, Op.STOP, 0, Op.STOP, 0);
        ManagedRuntime x = Program.of(Op.PUSH, 1, Op.ZERO, 60, Op.STOP, 0);
        due.is("ZERO without a jump to 60", x.run(0, 0), ManagedRuntime.ENDED);
        x.code(0, Op.PUSH, 0);
        due.is("ZERO with a jump to 60", x.run(0, 0), ManagedRuntime.CODE);
    }

    private static void objects(Due due) {
        for (int n = 0; n < 3; n++) {
            ManagedRuntime x = Program.of(Op.NEW, 2, Op.GET, n, Op.RETURN, 0);
            due.is("a new object's field", x.run(0, 0), ManagedRuntime.ENDED);
            due.is("is nothing", x.givenSort(), 0);
            gives(due, "PUT and GET " + n, 6,
                Op.NEW, 2, Op.DUP, 0, Op.PUSH, 6, Op.PUT, n, Op.GET, n, Op.RETURN, 0);
        }
        ManagedRuntime x = Program.of(Op.NEW, 2, Op.STORE, 0,
            Op.LOAD, 0, Op.PUSH, 10, Op.PUT, 0, Op.LOAD, 0, Op.PUSH, 11, Op.PUT, 1, Op.LOAD, 0, Op.PUSH, 12, Op.PUT, 2,
            Op.NEW, 1, Op.STORE, 2, Op.LOAD, 2, Op.LOAD, 0, Op.PUT, 1, Op.LOAD, 2, Op.GIVE, 3, Op.LOAD, 2, Op.RETURN, 0);
        due.is("run", x.run(0, 0), ManagedRuntime.ENDED);
        due.is("NEW gives its class", x.given(), 1);
        for (int n = 0; n < 3; n++) {
            due.is("field " + n, x.number(3, (12 | n) * 4 + 1), 10 + n);
        }
        due.is("field 0 of the other", x.sort(3, 12), 0);
        due.is("field 2 of the other", x.sort(3, 14), 0);
        for (int level = 0; level < 3; level++) {
            for (int n = 0; n < 3; n++) {
                placesAreMadeEmpty(due, level, n);
            }
        }
    }

    // Objects whose field is filled and which are then dropped: each must start with the field empty.
    private static void placesAreMadeEmpty(Due due, int level, int field) {
        ManagedRuntime x = Program.of(Op.NEW, 1, Op.DUP, 0, Op.GET, field, Op.EMPTY, 0, Op.SAME, 0, Op.OUT, 0,
            Op.PUSH, 4, Op.PUT, field, Op.JUMP, 0);
        x.level(level);
        // 34 objects are made in a run, so the second run finds every place used before.
        x.run(0, 0);
        due.is("run", x.run(0, 0), ManagedRuntime.TIRED);
        due.is("objects", x.made(), 34);
        due.is("outputs", x.printed(), 33);
        for (int k = 0; k < 20; k++) {
            due.is("object " + k + " had an empty field " + field, x.output(k), 1);
        }
    }

    private static void is(Due due) {
        gives(due, "nothing is no class", 0, Op.EMPTY, 0, Op.IS, 0, Op.RETURN, 0);
        for (int n = 0; n < 4; n++) {
            gives(due, "an int is no class", 0, Op.PUSH, n, Op.IS, n, Op.RETURN, 0);
            gives(due, "an object's class", 1, Op.NEW, n, Op.IS, n, Op.RETURN, 0);
        }
    }

    private static void calls(Due due) {
        ManagedRuntime x = Program.of(
            Op.PUSH, 50, Op.PUSH, 7, Op.STORE, 2, Op.NEW, 1, Op.PUSH, 8, Op.CALL, 3,
            Op.ADD, 0, Op.LOAD, 2, Op.ADD, 0, Op.RETURN, 0);
        x.method(1, 3, 20);
        // Tells local 0's class, local 1, and that locals 2 and 3 are nothing.
        Program.put(x, 20, Op.LOAD, 0, Op.IS, 1, Op.OUT, 0, Op.LOAD, 1, Op.OUT, 0,
            Op.LOAD, 2, Op.LOAD, 3, Op.SAME, 0, Op.OUT, 0, Op.LOAD, 2, Op.EMPTY, 0, Op.SAME, 0, Op.OUT, 0,
            Op.PUSH, 9, Op.STORE, 2, Op.PUSH, 1, Op.PUSH, 600, Op.RETURN, 0);
        due.is("run", x.run(0, 0), ManagedRuntime.ENDED);
        due.is("the caller's stack and locals are kept", x.given(), 657);
        int[] wanted = {1, 8, 1, 1};
        for (int k = 0; k < 4; k++) {
            due.is("told in the frame " + k, x.output(k), wanted[k]);
        }
        Program.put(x, 20, Op.POP, 0);
        due.is("a new frame's stack is empty", x.run(0, 0), ManagedRuntime.STACK);
        Program.put(x, 20, Op.STOP, 0);
        due.is("STOP ends from any frame", x.run(0, 0), ManagedRuntime.ENDED);
        due.is("and gives no value", x.givenSort(), 0);
        Program.put(x, 20, Op.RETURN, 0);
        due.is("RETURN without a value", x.run(0, 0), ManagedRuntime.STACK);
        returnOntoFourValues(due);
    }

    private static void returnOntoFourValues(Due due) {
        ManagedRuntime x = Program.of(Op.PUSH, 1, Op.DUP, 0, Op.DUP, 0, Op.DUP, 0, Op.NEW, 0, Op.EMPTY, 0, Op.CALL, 0,
            Op.ADD, 0, Op.ADD, 0, Op.ADD, 0, Op.ADD, 0, Op.RETURN, 0);
        Program.put(x, 20, Op.PUSH, 100, Op.RETURN, 0);
        x.method(0, 0, 20);
        due.is("run", x.run(0, 0), ManagedRuntime.ENDED);
        due.is("four values below a call's", x.given(), 104);
    }

    private static void globals(Due due) {
        for (int g = 0; g < 4; g++) {
            ManagedRuntime x = Program.of(Op.PUSH, 70 + g, Op.GIVE, g, Op.STOP, 0, Op.TAKE, g, Op.RETURN, 0);
            x.run(0, 0);
            due.is("a global outlasts a run", x.run(3, 0), ManagedRuntime.ENDED);
            due.is("TAKE " + g, x.given(), 70 + g);
            for (int other = 0; other < 4; other++) {
                due.is("sort of " + other, x.sort(other, 3), other == g ? 1 : 0);
            }
        }
        ManagedRuntime y = Program.of(Op.PUSH, 5, Op.GIVE, 1, Op.PUSH, 6, Op.POP, 0, Op.POP, 0);
        due.is("a run that fails", y.run(0, 0), ManagedRuntime.STACK);
        due.is("keeps what it gave a global before", y.number(1, 3), 5);
    }
}

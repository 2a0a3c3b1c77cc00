/** The boundary cases in the table of instructions, and which instruction is due next. */
public final class BoundaryInstructionsTest {
    private static final int MIN = Integer.MIN_VALUE;
    private static final int MAX = Integer.MAX_VALUE;

    public static void main(String[] args) {
        Due due = new Due();
        due.sentence("STOP: the run ends with ENDED", BoundaryInstructionsTest::stop);
        due.sentence("LESS: a b -> 1 if a < b, else 0", BoundaryInstructionsTest::less);
        due.sentence("SAME: v w -> 1 if both are nothing, equal ints, or the same object, else 0", BoundaryInstructionsTest::same);
        due.sentence("JUMP: -> instruction n is due next", BoundaryInstructionsTest::jump);
        due.sentence("ZERO: a -> instruction n is due next if a = 0", BoundaryInstructionsTest::zero);
        due.sentence("IS: v -> 1 if v is an object whose class is n or has n above it, over any number of steps, else 0", BoundaryInstructionsTest::is);
        due.sentence("due at the start in slot n of the first class, from the class of o upwards, that has one there", BoundaryInstructionsTest::callFindsTheStart);
        due.sentence("its local 0 is o, local 1 v, 2 and 3 nothing, its stack is empty", BoundaryInstructionsTest::callMakesTheFrame);
        due.sentence("RETURN: v -> and the frame goes; v comes on the stack of the frame before", BoundaryInstructionsTest::returnToTheFrameBefore);
        due.sentence("or, if there is none, the run ends with ENDED and GIVES v", BoundaryInstructionsTest::returnFromTheFirstFrame);
        due.sentence("The instruction after the one that worked is due next, except as said", BoundaryInstructionsTest::theOneAfter);
        due.sentence("for a frame that called, the one after CALL", BoundaryInstructionsTest::theOneAfterCall);
        due.end();
    }

    private static void gives(Due due, String what, int want, int... pairs) {
        givesBy(due, what, want, Program.of(pairs));
    }

    private static void givesBy(Due due, String what, int want, ManagedRuntime x) {
        due.is(what + ": run", x.run(0, 0), ManagedRuntime.ENDED);
        due.is(what + ": sort", x.givenSort(), 1);
        due.is(what, x.given(), want);
    }

    private static void stop(Due due) {
        ManagedRuntime x = Program.of(Op.NEW, 0, Op.EMPTY, 0, Op.CALL, 0, Op.RETURN, 0);
        x.method(0, 0, 10);
        due.is("in the first frame", x.run(10, 0), ManagedRuntime.ENDED);
        due.is("its steps", x.steps(), 1);
        due.is("in the second frame", x.run(0, 0), ManagedRuntime.ENDED);
        due.is("its steps", x.steps(), 4);
        due.is("it gave no value", x.givenSort(), 0);
        Program.put(x, 10, Op.PUSH, 1, Op.STOP, 0);
        x.run(10, 0);
        due.is("nor with a value on the stack", x.givenSort(), 0);
    }

    private static void less(Due due) {
        int[][] rows = {
            {0, 1, 1}, {1, 1, 0}, {0, 0, 0}, {1, 0, 0}, {-1, 0, 1}, {0, -1, 0}, {-1, -1, 0},
            {MIN, MIN + 1, 1}, {MIN, MIN, 0}, {MIN + 1, MIN, 0}, {MAX - 1, MAX, 1}, {MAX, MAX, 0}, {MAX, MAX - 1, 0},
            {MIN, MAX, 1}, {MAX, MIN, 0}, {MIN, 1, 1}, {1, MIN, 0}, {-2, MAX, 1}, {MAX, -2, 0},
        };
        for (int[] row : rows) {
            gives(due, row[0] + " < " + row[1], row[2], Op.PUSH, row[0], Op.PUSH, row[1], Op.LESS, 0, Op.RETURN, 0);
        }
    }

    private static void same(Due due) {
        gives(due, "both nothing", 1, Op.EMPTY, 0, Op.EMPTY, 0, Op.SAME, 0, Op.RETURN, 0);
        int[][] ints = {{0, 0, 1}, {0, 1, 0}, {MIN, MIN, 1}, {MIN, MAX, 0}, {MAX, MAX, 1}, {MIN, 0, 0}, {-1, -1, 1}, {-1, 1, 0}};
        for (int[] row : ints) {
            gives(due, row[0] + " and " + row[1], row[2], Op.PUSH, row[0], Op.PUSH, row[1], Op.SAME, 0, Op.RETURN, 0);
        }
        gives(due, "the same object", 1, Op.NEW, 0, Op.DUP, 0, Op.SAME, 0, Op.RETURN, 0);
        gives(due, "the same object by another way", 1,
            Op.NEW, 0, Op.DUP, 0, Op.GIVE, 1, Op.TAKE, 1, Op.SAME, 0, Op.RETURN, 0);
        gives(due, "two objects that are alike", 0, Op.NEW, 0, Op.NEW, 0, Op.SAME, 0, Op.RETURN, 0);
        // Neither the place nor the class of an object makes it an int, and 0 is not nothing.
        int[] makes = {Op.EMPTY, Op.PUSH, Op.NEW};
        for (int v = 0; v < 3; v++) {
            for (int w = 0; w < 3; w++) {
                if (v != w) {
                    gives(due, "sorts " + v + " and " + w, 0, makes[v], 0, makes[w], 0, Op.SAME, 0, Op.RETURN, 0);
                }
            }
        }
    }

    private static void jump(Due due) {
        ManagedRuntime x = new ManagedRuntime();
        Program.put(x, 0, Op.PUSH, 70, Op.RETURN, 0);
        Program.put(x, 59, Op.RETURN, 0);
        Program.put(x, 10, Op.JUMP, 0);
        due.is("to 0", x.run(10, 0), ManagedRuntime.ENDED);
        due.is("given at 0", x.given(), 70);
        Program.put(x, 10, Op.PUSH, 71, Op.JUMP, 59);
        due.is("to 59", x.run(10, 0), ManagedRuntime.ENDED);
        due.is("given at 59", x.given(), 71);
        for (int n : new int[] {-1, 60, MIN, MAX}) {
            x.code(11, Op.JUMP, n);
            due.is("to " + n, x.run(10, 0), ManagedRuntime.CODE);
            due.is("it worked, to " + n, x.steps(), 2);
        }
    }

    private static void zero(Due due) {
        for (int a : new int[] {MIN, -65536, -1, 0, 1, 65536, MAX}) {
            gives(due, "on " + a, a == 0 ? 2 : 1,
                Op.PUSH, a, Op.ZERO, 4, Op.PUSH, 1, Op.RETURN, 0, Op.PUSH, 2, Op.RETURN, 0);
            for (int n : new int[] {-1, 60}) {
                ManagedRuntime x = Program.of(Op.PUSH, a, Op.ZERO, n);
                due.is("on " + a + " to " + n, x.run(0, 0), a == 0 ? ManagedRuntime.CODE : ManagedRuntime.ENDED);
                due.is("its steps", x.steps(), a == 0 ? 2 : 3);
            }
        }
        gives(due, "a goes with a jump", 9, Op.PUSH, 9, Op.PUSH, 0, Op.ZERO, 3, Op.RETURN, 0);
        gives(due, "a goes without a jump", 9, Op.PUSH, 9, Op.PUSH, 1, Op.ZERO, 30, Op.RETURN, 0);
    }

    private static void is(Due due) {
        // A ladder of all four classes, two pairs, and a ladder that leaves out class 2.
        int[][] aboves = {{-1, 0, 1, 2}, {-1, 0, -1, 2}, {-1, 0, -1, 1}, {-1, -1, -1, -1}};
        String[] wanted = {"1000 1100 1110 1111", "1000 1100 0010 0011", "1000 1100 0010 1101", "1000 0100 0010 0001"};
        for (int k = 0; k < aboves.length; k++) {
            for (int c = 0; c < 4; c++) {
                for (int n = 0; n < 4; n++) {
                    ManagedRuntime x = Program.of(Op.NEW, c, Op.IS, n, Op.RETURN, 0);
                    for (int d = 0; d < 4; d++) {
                        x.above(d, aboves[k][d]);
                    }
                    givesBy(due, "order " + k + ": class " + c + " is " + n, wanted[k].charAt(5 * c + n) - '0', x);
                }
            }
        }
        for (int n = 0; n < 4; n++) {
            gives(due, "nothing is " + n, 0, Op.EMPTY, 0, Op.IS, n, Op.RETURN, 0);
            gives(due, "the int " + n + " is " + n, 0, Op.PUSH, n, Op.IS, n, Op.RETURN, 0);
        }
    }

    // A call in slot 2 of an object of class 3, of the ladder 3, 2, 1, 0; each class's method gives its number.
    private static ManagedRuntime ladder() {
        ManagedRuntime x = Program.of(Op.NEW, 3, Op.EMPTY, 0, Op.CALL, 2, Op.RETURN, 0);
        for (int c = 0; c < 4; c++) {
            Program.put(x, 20 + 2 * c, Op.PUSH, c, Op.RETURN, 0);
            x.above(c, c - 1);
        }
        return x;
    }

    private static void callFindsTheStart(Due due) {
        for (int starts = 0; starts < 16; starts++) {
            ManagedRuntime x = ladder();
            int first = -1;
            for (int c = 0; c < 4; c++) {
                if ((starts >> c & 1) == 1) {
                    x.method(c, 2, 20 + 2 * c);
                    first = c;
                }
            }
            if (first < 0) {
                due.is("no starts", x.run(0, 0), ManagedRuntime.MISSING);
            } else {
                givesBy(due, "starts " + Integer.toString(starts, 2), first, x);
            }
        }
        ManagedRuntime x = ladder();
        x.method(3, 1, 26);
        x.method(3, 3, 26);
        due.is("starts in the slots beside it", x.run(0, 0), ManagedRuntime.MISSING);
        x.code(0, Op.NEW, 1);
        x.method(2, 2, 24);
        due.is("a start in a class below", x.run(0, 0), ManagedRuntime.MISSING);
        x.method(0, 2, 20);
        givesBy(due, "a start in a class above", 0, x);
    }

    private static void callMakesTheFrame(Due due) {
        // Called twice, each time from full locals; the frame leaves its own locals and stack full.
        ManagedRuntime x = Program.of(Op.NEW, 2, Op.DUP, 0, Op.STORE, 2, Op.DUP, 0, Op.STORE, 3,
            Op.LOAD, 1, Op.CALL, 0, Op.POP, 0, Op.LOAD, 2, Op.LOAD, 1, Op.CALL, 0);
        Program.put(x, 20, Op.LOAD, 0, Op.IS, 2, Op.OUT, 0, Op.LOAD, 1, Op.OUT, 0,
            Op.LOAD, 2, Op.EMPTY, 0, Op.SAME, 0, Op.OUT, 0, Op.LOAD, 3, Op.EMPTY, 0, Op.SAME, 0, Op.OUT, 0,
            Op.PUSH, 8, Op.STORE, 0, Op.PUSH, 8, Op.STORE, 1, Op.PUSH, 8, Op.STORE, 2, Op.PUSH, 8, Op.STORE, 3,
            Op.PUSH, 7, Op.DUP, 0, Op.DUP, 0, Op.DUP, 0, Op.DUP, 0, Op.DUP, 0, Op.RETURN, 0);
        x.method(2, 0, 20);
        due.is("run", x.run(0, 55), ManagedRuntime.ENDED);
        due.is("what both frames told", x.printed(), 8);
        for (int k = 0; k < 8; k += 4) {
            due.is("local 0 is o", x.output(k), 1);
            due.is("local 1 is v", x.output(k + 1), 55);
            due.is("local 2 is nothing", x.output(k + 2), 1);
            due.is("local 3 is nothing", x.output(k + 3), 1);
        }
        x.code(20, Op.POP, 0);
        due.is("nothing on its stack", x.run(0, 55), ManagedRuntime.STACK);
        x.code(20, Op.RETURN, 0);
        due.is("nothing to return", x.run(0, 55), ManagedRuntime.STACK);
    }

    private static void returnToTheFrameBefore(Due due) {
        for (int below = 0; below <= 4; below++) {
            ManagedRuntime x = new ManagedRuntime();
            for (int i = 0; i < below; i++) {
                x.code(i, Op.PUSH, i);
            }
            Program.put(x, below, Op.NEW, 0, Op.PUSH, 60, Op.CALL, 0);
            for (int i = 0; i <= below; i++) {
                x.code(below + 3 + i, Op.OUT, 0);
            }
            x.code(2 * below + 4, Op.POP, 0);
            Program.put(x, 30, Op.LOAD, 1, Op.RETURN, 0);
            x.method(0, 0, 30);
            due.is("nothing is left of " + below + " values", x.run(0, 0), ManagedRuntime.STACK);
            due.is("values that were there", x.printed(), below + 1);
            due.is("v is on top", x.output(0), 60);
            for (int k = 1; k <= below; k++) {
                due.is("below it", x.output(k), below - k);
            }
        }
    }

    private static void returnFromTheFirstFrame(Due due) {
        ManagedRuntime x = Program.of(Op.NEW, 0, Op.PUSH, 60, Op.CALL, 0, Op.PUSH, 61, Op.RETURN, 0);
        Program.put(x, 30, Op.LOAD, 1, Op.RETURN, 0);
        x.method(0, 0, 30);
        due.is("there is a frame before", x.run(0, 0), ManagedRuntime.ENDED);
        due.is("the run goes on", x.given(), 61);
        due.is("steps with the frame before", x.steps(), 7);
        due.is("there is none", x.run(30, 62), ManagedRuntime.ENDED);
        due.is("the run gives", x.given(), 62);
        due.is("steps without", x.steps(), 2);
        x.code(30, Op.STOP, 0);
        due.is("RETURN without a value", x.run(31, 0), ManagedRuntime.STACK);
        due.is("gives none", x.givenSort(), 0);
    }

    private static void theOneAfter(Due due) {
        for (int op = 1; op < 24; op++) {
            if (op != Op.JUMP && op != Op.CALL && op != Op.RETURN) {
                ManagedRuntime x = new ManagedRuntime();
                int[] before = valuesFor(op);
                Program.put(x, 20, before);
                int values = before.length / 2;
                // After 58 there is a STOP, after 59 there is none.
                Program.put(x, 20 + values, Op.JUMP, 58);
                x.code(58, op, 0);
                due.is("op " + op + " at 58", x.run(20, 0), ManagedRuntime.ENDED);
                due.is("its steps", x.steps(), values + 3);
                x.code(20 + values, Op.JUMP, 59);
                x.code(59, op, 0);
                due.is("op " + op + " at 59", x.run(20, 0), ManagedRuntime.CODE);
                due.is("its steps", x.steps(), values + 2);
            }
        }
    }

    private static int[] valuesFor(int op) {
        boolean object = op == Op.GET || op == Op.PUT;
        return new int[] {object ? Op.NEW : Op.PUSH, 1, object ? Op.NEW : Op.PUSH, 1};
    }

    private static void theOneAfterCall(Due due) {
        ManagedRuntime x = new ManagedRuntime();
        Program.put(x, 10, Op.LOAD, 1, Op.RETURN, 0);
        x.method(0, 0, 10);
        Program.put(x, 56, Op.NEW, 0, Op.PUSH, 80, Op.CALL, 0, Op.RETURN, 0);
        due.is("CALL at 58", x.run(56, 0), ManagedRuntime.ENDED);
        due.is("given at 59", x.given(), 80);
        Program.put(x, 57, Op.NEW, 0, Op.PUSH, 80, Op.CALL, 0);
        due.is("CALL at 59", x.run(57, 0), ManagedRuntime.CODE);
        due.is("its steps", x.steps(), 5);
        Program.put(x, 0, Op.RETURN, 0);
        Program.put(x, 20, Op.NEW, 0, Op.PUSH, 81, Op.CALL, 0, Op.RETURN, 0);
        due.is("CALL at 22", x.run(20, 0), ManagedRuntime.ENDED);
        due.is("given at 23", x.given(), 81);
        due.is("steps", x.steps(), 6);
    }
}

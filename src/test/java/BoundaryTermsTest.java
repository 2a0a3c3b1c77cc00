/** The boundary cases of the section "Terms": values, classes, fields, globals, code, frames, locals, stack. */
public final class BoundaryTermsTest {
    private static final int MIN = Integer.MIN_VALUE;
    private static final int MAX = Integer.MAX_VALUE;

    public static void main(String[] args) {
        Due due = new Due();
        due.sentence("A VALUE is NOTHING, an int, or an OBJECT", BoundaryTermsTest::values);
        due.sentence("arithmetic wraps as in Java", BoundaryTermsTest::arithmeticWraps);
        due.sentence("There are 4 CLASSES, 0 to 3", BoundaryTermsTest::classes);
        due.sentence("each has a class ABOVE it with a smaller number, or none", BoundaryTermsTest::classAbove);
        due.sentence("for each of the 4 SLOTS, 0 to 3, a START, the number of an instruction, or none", BoundaryTermsTest::slotsAndStarts);
        due.sentence("An object has a class and 3 FIELDS, 0 to 2, which have values, at first nothing", BoundaryTermsTest::fields);
        due.sentence("There are 4 GLOBALS, 0 to 3, which have values and outlast runs", BoundaryTermsTest::globals);
        due.sentence("The CODE is 60 instructions, 0 to 59, at first all STOP", BoundaryTermsTest::code);
        due.sentence("A run works with FRAMES, at most 10", BoundaryTermsTest::frames);
        due.sentence("the latest frame works", BoundaryTermsTest::latestFrameWorks);
        due.sentence("a frame has 4 LOCALS, 0 to 3", BoundaryTermsTest::locals);
        due.sentence("a STACK of at most 6 values", BoundaryTermsTest::stack);
        due.end();
    }

    private static void values(Due due) {
        // The value that the first instruction leaves goes through every sort of place.
        int[][] ways = {
            {Op.RETURN, 0},
            {Op.STORE, 2, Op.LOAD, 2, Op.RETURN, 0},
            {Op.GIVE, 3, Op.TAKE, 3, Op.RETURN, 0},
            {Op.STORE, 2, Op.NEW, 1, Op.STORE, 3, Op.LOAD, 3, Op.LOAD, 2, Op.PUT, 2, Op.LOAD, 3, Op.GET, 2, Op.RETURN, 0},
            {Op.STORE, 2, Op.NEW, 1, Op.LOAD, 2, Op.CALL, 0, Op.RETURN, 0},
        };
        for (int[] way : ways) {
            comesThrough(due, way, Op.EMPTY, 0, 0, 0);
            for (int a : new int[] {MIN, MIN + 1, -1, 0, 1, 2, MAX - 1, MAX}) {
                comesThrough(due, way, Op.PUSH, a, 1, a);
            }
            for (int c = 0; c < 4; c++) {
                comesThrough(due, way, Op.NEW, c, 2, c);
            }
        }
    }

    private static void comesThrough(Due due, int[] way, int op, int n, int sort, int number) {
        ManagedRuntime x = Program.of(op, n);
        Program.put(x, 1, way);
        Program.put(x, 40, Op.LOAD, 1, Op.RETURN, 0);
        x.method(1, 0, 40);
        String what = "op " + op + " " + n + " by a way of " + way.length / 2;
        due.is(what, x.run(0, 0), ManagedRuntime.ENDED);
        due.is(what + ": sort", x.givenSort(), sort);
        due.is(what + ": number", x.given(), number);
    }

    private static void arithmeticWraps(Due due) {
        int[][] rows = {
            {Op.ADD, MAX - 1, 1, MAX}, {Op.ADD, MAX, 1, MIN}, {Op.ADD, MIN + 1, -1, MIN}, {Op.ADD, MIN, -1, MAX},
            {Op.ADD, MAX, MAX, -2}, {Op.ADD, MIN, MIN, 0}, {Op.ADD, MIN, MAX, -1},
            {Op.SUB, MIN + 1, 1, MIN}, {Op.SUB, MIN, 1, MAX}, {Op.SUB, MAX - 1, -1, MAX}, {Op.SUB, MAX, -1, MIN},
            {Op.SUB, -1, MIN, MAX}, {Op.SUB, 0, MIN, MIN}, {Op.SUB, MIN, MAX, 1}, {Op.SUB, MAX, MIN, -1},
            {Op.MUL, 46340, 46340, 2147395600}, {Op.MUL, 46341, 46341, -2147479015},
            {Op.MUL, 32767, 65536, 2147418112}, {Op.MUL, 32768, 65536, MIN}, {Op.MUL, 65536, 65536, 0},
            {Op.MUL, MIN + 1, -1, MAX}, {Op.MUL, MIN, -1, MIN}, {Op.MUL, MAX, 2, -2}, {Op.MUL, MAX, MAX, 1},
            {Op.MUL, MIN, MIN, 0}, {Op.MUL, MIN, MAX, MIN},
        };
        for (int[] row : rows) {
            ManagedRuntime x = Program.of(Op.PUSH, row[1], Op.PUSH, row[2], row[0], 0, Op.RETURN, 0);
            String what = "op " + row[0] + " on " + row[1] + " and " + row[2];
            due.is(what, x.run(0, 0), ManagedRuntime.ENDED);
            due.is(what + ": sort", x.givenSort(), 1);
            due.is(what + ": number", x.given(), row[3]);
        }
    }

    private static void classes(Due due) {
        for (int c = 0; c < 4; c++) {
            ManagedRuntime x = Program.of(Op.NEW, c, Op.DUP, 0, Op.IS, c, Op.OUT, 0, Op.RETURN, 0);
            due.is("an object of class " + c, x.run(0, 0), ManagedRuntime.ENDED);
            due.is("its class", x.given(), c);
            due.is("it is of class " + c, x.output(0), 1);
        }
        for (int c : new int[] {-1, 4}) {
            ManagedRuntime x = new ManagedRuntime();
            due.no("NEW " + c, x.code(0, Op.NEW, c));
            due.no("IS " + c, x.code(0, Op.IS, c));
            due.no("above of " + c, x.above(c, -1));
            due.no("a start of " + c, x.method(c, 0, 0));
        }
    }

    private static void classAbove(Due due) {
        for (int c = 0; c < 4; c++) {
            for (int a = -1; a < 4; a++) {
                ManagedRuntime x = new ManagedRuntime();
                String what = a + " above " + c;
                due.is(what, x.above(c, a) ? 1 : 0, a < c ? 1 : 0);
                for (int n = 0; n < 4; n++) {
                    Program.put(x, 0, Op.NEW, c, Op.IS, n, Op.RETURN, 0);
                    x.run(0, 0);
                    due.is(what + ": is " + n, x.given(), n == c || n == a && a < c ? 1 : 0);
                }
            }
        }
    }

    private static void slotsAndStarts(Due due) {
        for (int slot = 0; slot < 4; slot++) {
            ManagedRuntime x = new ManagedRuntime();
            Program.put(x, 10, Op.NEW, 2, Op.EMPTY, 0, Op.CALL, slot, Op.RETURN, 0);
            due.is("slot " + slot + " with none", x.run(10, 0), ManagedRuntime.MISSING);
            for (int start : new int[] {0, 59}) {
                x.method(2, slot, start);
                due.is("slot " + slot + " with start " + start, x.run(10, 0), ManagedRuntime.ENDED);
                due.is("STOP there worked", x.steps(), 4);
            }
            x.method(2, slot, -1);
            due.is("slot " + slot + " with none again", x.run(10, 0), ManagedRuntime.MISSING);
        }
        for (int slot : new int[] {-1, 4}) {
            ManagedRuntime x = new ManagedRuntime();
            due.no("CALL " + slot, x.code(0, Op.CALL, slot));
            due.no("a start in slot " + slot, x.method(0, slot, 0));
        }
    }

    private static void fields(Due due) {
        ManagedRuntime x = Program.of(Op.NEW, 3, Op.GIVE, 0, Op.STOP, 0);
        due.is("run", x.run(0, 0), ManagedRuntime.ENDED);
        due.is("its class", x.number(0, 3), 3);
        for (int f = 0; f < 3; f++) {
            due.is("field " + f + " at first", x.sort(0, 12 + f), 0);
        }
        for (int f = 0; f < 3; f++) {
            Program.put(x, 3, Op.TAKE, 0, Op.PUSH, 70 + f, Op.PUT, f, Op.STOP, 0);
            x.run(3, 0);
            for (int other = 0; other < 3; other++) {
                due.is("field " + other + " after PUT " + f, x.number(0, 12 + other), other <= f ? 70 + other : 0);
            }
        }
        fieldsOfPlacesUsedBefore(due);
        for (int f : new int[] {-1, 3}) {
            due.no("GET " + f, x.code(0, Op.GET, f));
            due.no("PUT " + f, x.code(0, Op.PUT, f));
        }
    }

    // Each run lets go 16 objects and more with full fields, so a new one comes where another one was.
    private static void fieldsOfPlacesUsedBefore(Due due) {
        ManagedRuntime x = Program.of(Op.NEW, 3, Op.GIVE, 0, Op.TAKE, 0, Op.PUSH, 5, Op.PUT, 0, Op.TAKE, 0, Op.PUSH, 6, Op.PUT, 1,
            Op.TAKE, 0, Op.TAKE, 0, Op.PUT, 2, Op.JUMP, 0);
        Program.put(x, 30, Op.NEW, 1, Op.GIVE, 1, Op.STOP, 0);
        for (int level = 0; level < 3; level++) {
            x.level(level);
            for (int k = 0; k < 20; k++) {
                due.is("objects with full fields", x.run(0, 0), ManagedRuntime.TIRED);
                due.is("a new one", x.run(30, 0), ManagedRuntime.ENDED);
                due.is("its class", x.number(1, 3), 1);
                for (int f = 0; f < 3; f++) {
                    due.is("its field " + f, x.sort(1, 12 + f), 0);
                }
            }
        }
    }

    private static void globals(Due due) {
        ManagedRuntime x = Program.of(Op.PUSH, 20, Op.GIVE, 0, Op.PUSH, 21, Op.GIVE, 1,
            Op.PUSH, 22, Op.GIVE, 2, Op.PUSH, 23, Op.GIVE, 3, Op.STOP, 0);
        Program.put(x, 20, Op.JUMP, 20, Op.POP, 0, Op.EMPTY, 0, Op.OUT, 0, Op.NEW, 0, Op.EMPTY, 0, Op.CALL, 0);
        Program.put(x, 30, Op.EMPTY, 0, Op.RETURN, 0);
        x.run(0, 0);
        globalsAre(due, x, "a run that ended");
        int[] starts = {60, 20, 21, 22, 24, 30};
        int[] endings = {ManagedRuntime.CODE, ManagedRuntime.TIRED, ManagedRuntime.STACK, ManagedRuntime.SORT,
            ManagedRuntime.MISSING, ManagedRuntime.ENDED};
        for (int k = 0; k < starts.length; k++) {
            due.is("run at " + starts[k], x.run(starts[k], 0), endings[k]);
            globalsAre(due, x, "a run with ending " + endings[k]);
        }
        for (int g : new int[] {-1, 4}) {
            due.no("TAKE " + g, x.code(0, Op.TAKE, g));
            due.no("GIVE " + g, x.code(0, Op.GIVE, g));
        }
    }

    private static void globalsAre(Due due, ManagedRuntime x, String after) {
        for (int g = 0; g < 4; g++) {
            due.is("global " + g + " after " + after, x.number(g, 3), 20 + g);
        }
    }

    private static void code(Due due) {
        ManagedRuntime x = new ManagedRuntime();
        for (int i = 0; i < 60; i++) {
            due.is("run at " + i, x.run(i, 0), ManagedRuntime.ENDED);
            due.is("steps of the run at " + i, x.steps(), 1);
        }
        due.is("run at -1", x.run(-1, 0), ManagedRuntime.CODE);
        due.is("run at 60", x.run(60, 0), ManagedRuntime.CODE);
        for (int i : new int[] {0, 59}) {
            due.yes("code at " + i, x.code(i, Op.POP, 0));
            due.is("run at " + i, x.run(i, 0), ManagedRuntime.STACK);
        }
        due.no("code at -1", x.code(-1, Op.POP, 0));
        due.no("code at 60", x.code(60, Op.POP, 0));
    }

    // Local 1 is how many frames are still to come.
    private static ManagedRuntime nest() {
        ManagedRuntime x = Program.of(Op.LOAD, 1, Op.ZERO, 8, Op.NEW, 0, Op.LOAD, 1, Op.PUSH, 1, Op.SUB, 0,
            Op.CALL, 0, Op.RETURN, 0, Op.PUSH, 5, Op.RETURN, 0);
        x.method(0, 0, 0);
        return x;
    }

    private static void frames(Due due) {
        ManagedRuntime x = nest();
        due.is("1 frame", x.run(0, 0), ManagedRuntime.ENDED);
        due.is("9 frames", x.run(0, 8), ManagedRuntime.ENDED);
        due.is("10 frames", x.run(0, 9), ManagedRuntime.ENDED);
        due.is("given through 10 frames", x.given(), 5);
        due.is("11 frames", x.run(0, 10), ManagedRuntime.DEEP);
        due.is("10 frames after a run that went too deep", x.run(0, 9), ManagedRuntime.ENDED);
        // The first frame calls three times, and each call nests as deep as the int in local 1 says.
        Program.put(x, 20, Op.NEW, 0, Op.LOAD, 1, Op.CALL, 0, Op.OUT, 0, Op.NEW, 0, Op.LOAD, 1, Op.CALL, 0, Op.OUT, 0,
            Op.NEW, 0, Op.LOAD, 1, Op.CALL, 0, Op.OUT, 0);
        due.is("10 frames three times", x.run(20, 8), ManagedRuntime.ENDED);
        due.is("it came back three times", x.printed(), 3);
        due.is("11 frames below the first", x.run(20, 9), ManagedRuntime.DEEP);
        due.is("it came back never", x.printed(), 0);
    }

    private static void latestFrameWorks(Due due) {
        // Each frame tells how many are still to come, before its call and after it.
        ManagedRuntime x = Program.of(Op.LOAD, 1, Op.OUT, 0, Op.LOAD, 1, Op.ZERO, 10, Op.NEW, 0, Op.LOAD, 1, Op.PUSH, 1, Op.SUB, 0,
            Op.CALL, 0, Op.POP, 0, Op.LOAD, 1, Op.OUT, 0, Op.EMPTY, 0, Op.RETURN, 0);
        x.method(0, 0, 0);
        for (int frames = 1; frames <= 10; frames++) {
            due.is(frames + " frames", x.run(0, frames - 1), ManagedRuntime.ENDED);
            due.is("told by " + frames + " frames", x.printed(), 2 * frames);
            for (int k = 0; k < frames; k++) {
                due.is("on the way down", x.output(k), frames - 1 - k);
                due.is("on the way up", x.output(frames + k), k);
            }
        }
    }

    private static void locals(Due due) {
        ManagedRuntime x = new ManagedRuntime();
        // The frame's four locals, a call that fills four others, and then the first four again.
        Program.put(x, 0, Op.PUSH, 30, Op.STORE, 0, Op.PUSH, 31, Op.STORE, 1, Op.PUSH, 32, Op.STORE, 2, Op.PUSH, 33, Op.STORE, 3,
            Op.NEW, 0, Op.EMPTY, 0, Op.CALL, 0, Op.POP, 0, Op.LOAD, 0, Op.OUT, 0, Op.LOAD, 1, Op.OUT, 0,
            Op.LOAD, 2, Op.OUT, 0, Op.LOAD, 3, Op.OUT, 0);
        Program.put(x, 30, Op.PUSH, 40, Op.STORE, 0, Op.PUSH, 41, Op.STORE, 1, Op.PUSH, 42, Op.STORE, 2, Op.PUSH, 43, Op.STORE, 3,
            Op.LOAD, 0, Op.OUT, 0, Op.LOAD, 1, Op.OUT, 0, Op.LOAD, 2, Op.OUT, 0, Op.LOAD, 3, Op.OUT, 0, Op.EMPTY, 0, Op.RETURN, 0);
        x.method(0, 0, 30);
        due.is("run", x.run(0, 0), ManagedRuntime.ENDED);
        for (int n = 0; n < 4; n++) {
            due.is("local " + n + " of the frame that was called", x.output(n), 40 + n);
            due.is("local " + n + " of the frame that called", x.output(4 + n), 30 + n);
        }
        for (int n : new int[] {-1, 4}) {
            due.no("LOAD " + n, x.code(0, Op.LOAD, n));
            due.no("STORE " + n, x.code(0, Op.STORE, n));
        }
    }

    private static void stack(Due due) {
        // Below the bound and at it, STOP is a step too; above it, the seventh PUSH is none.
        int[] steps = {6, 7, 6};
        for (int values = 5; values <= 7; values++) {
            ManagedRuntime x = new ManagedRuntime();
            for (int i = 0; i < values; i++) {
                x.code(i, Op.PUSH, i);
            }
            due.is(values + " values", x.run(0, 0), values > 6 ? ManagedRuntime.STACK : ManagedRuntime.ENDED);
            due.is("steps of " + values + " values", x.steps(), steps[values - 5]);
        }
        sixValuesKeepTheirOrder(due);
        eachFrameHasSix(due);
    }

    private static void sixValuesKeepTheirOrder(Due due) {
        ManagedRuntime x = Program.of(Op.PUSH, 0, Op.PUSH, 1, Op.PUSH, 2, Op.PUSH, 3, Op.PUSH, 4, Op.PUSH, 5,
            Op.OUT, 0, Op.OUT, 0, Op.OUT, 0, Op.OUT, 0, Op.OUT, 0, Op.OUT, 0);
        due.is("run", x.run(0, 0), ManagedRuntime.ENDED);
        for (int k = 0; k < 6; k++) {
            due.is("value " + k + " from the top", x.output(k), 5 - k);
        }
    }

    // Four values stay below a call, and the frame that is called has room for six of its own.
    private static void eachFrameHasSix(Due due) {
        ManagedRuntime x = Program.of(Op.PUSH, 1, Op.PUSH, 2, Op.PUSH, 3, Op.PUSH, 4, Op.NEW, 0, Op.EMPTY, 0, Op.CALL, 0,
            Op.OUT, 0, Op.OUT, 0, Op.OUT, 0, Op.OUT, 0, Op.OUT, 0);
        Program.put(x, 20, Op.PUSH, 11, Op.DUP, 0, Op.DUP, 0, Op.DUP, 0, Op.DUP, 0, Op.PUSH, 16, Op.RETURN, 0);
        x.method(0, 0, 20);
        due.is("six in the second frame", x.run(0, 0), ManagedRuntime.ENDED);
        int[] wanted = {16, 4, 3, 2, 1};
        for (int k = 0; k < 5; k++) {
            due.is("value " + k + " of the first frame", x.output(k), wanted[k]);
        }
        x.code(26, Op.PUSH, 17);
        due.is("a seventh in the second frame", x.run(0, 0), ManagedRuntime.STACK);
        due.is("its steps", x.steps(), 13);
    }
}

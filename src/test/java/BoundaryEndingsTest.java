/** The boundary of each ending of an instruction that can't work. */
public final class BoundaryEndingsTest {
    private static final int MIN = Integer.MIN_VALUE;
    private static final int MAX = Integer.MAX_VALUE;
    private static final int[] TAKES = {0, 0, 0, 0, 1, 1, 1, 2, 2, 2, 2, 2, 2, 0, 1, 0, 1, 2, 1, 2, 1, 0, 1, 1};
    private static final int[] LEAVES = {0, 1, 1, 1, 0, 0, 2, 2, 1, 1, 1, 1, 1, 0, 0, 1, 1, 0, 1, 0, 0, 1, 0, 0};

    public static void main(String[] args) {
        Due due = new Due();
        due.sentence("its number is outside 0..59: CODE", BoundaryEndingsTest::outsideTheCode);
        due.sentence("300 instructions have worked: TIRED", BoundaryEndingsTest::tired);
        due.sentence("too few values are on the stack", BoundaryEndingsTest::tooFewValues);
        due.sentence("or there would be more than 6: STACK", BoundaryEndingsTest::tooManyValues);
        due.sentence("a value is not of the sort that it needs: SORT", BoundaryEndingsTest::wrongSort);
        due.sentence("in NEW, 16 objects are NEEDED: MEMORY", BoundaryEndingsTest::memoryIsFull);
        due.sentence("in CALL, no class has a start there: MISSING", BoundaryEndingsTest::noStart);
        due.sentence("or 10 frames are there: DEEP", BoundaryEndingsTest::tooDeep);
        due.end();
    }

    private static void outsideTheCode(Due due) {
        for (int at : new int[] {MIN, -60, -1, 0, 1, 58, 59, 60, 61, MAX}) {
            boolean inside = at >= 0 && at <= 59;
            int ending = inside ? ManagedRuntime.ENDED : ManagedRuntime.CODE;
            ManagedRuntime x = new ManagedRuntime();
            due.is("run at " + at, x.run(at, 0), ending);
            due.is("its steps", x.steps(), inside ? 1 : 0);
            x.code(20, Op.JUMP, at);
            due.is("JUMP " + at, x.run(20, 0), ending);
            due.is("its steps", x.steps(), inside ? 2 : 1);
            Program.put(x, 20, Op.PUSH, 0, Op.ZERO, at);
            due.is("ZERO " + at, x.run(20, 0), ending);
            due.is("its steps", x.steps(), inside ? 3 : 2);
        }
        ManagedRuntime x = new ManagedRuntime();
        x.code(58, Op.PUSH, 1);
        due.is("from 58 to 59", x.run(58, 0), ManagedRuntime.ENDED);
        x.code(59, Op.PUSH, 1);
        due.is("from 59 to 60", x.run(59, 0), ManagedRuntime.CODE);
    }

    // Values with which the instruction can work, the lower first.
    private static int[] valuesFor(int op) {
        switch (op) {
            case Op.GET:
                return new int[] {Op.NEW, 0};
            case Op.PUT: case Op.CALL:
                return new int[] {Op.NEW, 0, Op.PUSH, 1};
            default:
                int[] ints = new int[2 * TAKES[op]];
                for (int k = 0; k < ints.length; k++) {
                    ints[k] = 1;
                }
                return ints;
        }
    }

    // A STOP is there, so a jump ends the run.
    private static int operandFor(int op) {
        return op == Op.JUMP || op == Op.ZERO ? 50 : 0;
    }

    private static int[] withOp(int[] values, int op, int n) {
        int[] all = new int[values.length + 2];
        System.arraycopy(values, 0, all, 0, values.length);
        all[values.length] = op;
        all[values.length + 1] = n;
        return all;
    }

    private static void tired(Due due) {
        for (int op = 0; op < 24; op++) {
            int[] values = valuesFor(op);
            for (int worked = 298; worked <= 300; worked++) {
                ManagedRuntime x = new ManagedRuntime();
                x.method(0, 0, 50);
                // What follows the instruction is STOP.
                int ending = Program.runAfter(x, worked - values.length / 2, withOp(values, op, operandFor(op)));
                boolean ends = op == Op.STOP || op == Op.RETURN;
                int stepsToEnd = worked + (ends ? 1 : 2);
                String what = "op " + op + " after " + worked;
                due.is(what, ending, stepsToEnd <= 300 ? ManagedRuntime.ENDED : ManagedRuntime.TIRED);
                due.is(what + ": steps", x.steps(), Math.min(stepsToEnd, 300));
            }
        }
        ManagedRuntime x = Program.of(Op.JUMP, 0);
        due.is("a run without an end", x.run(0, 0), ManagedRuntime.TIRED);
        due.is("its steps", x.steps(), 300);
        due.is("the next run's are its own", x.run(0, 0), ManagedRuntime.TIRED);
        due.is("its steps", x.steps(), 300);
        stepsOfAllFramesCount(due);
    }

    // 7 steps to a round, of which 2 are in the second frame.
    private static void stepsOfAllFramesCount(Due due) {
        ManagedRuntime x = Program.of(Op.NEW, 0, Op.DUP, 0, Op.CALL, 0, Op.POP, 0, Op.JUMP, 0);
        Program.put(x, 20, Op.LOAD, 1, Op.RETURN, 0);
        x.method(0, 0, 20);
        due.is("over frames", x.run(0, 0), ManagedRuntime.TIRED);
        due.is("steps over frames", x.steps(), 300);
        due.is("objects in 42 rounds and one begun", x.made(), 43);
    }

    private static void tooFewValues(Due due) {
        for (int op = 0; op < 24; op++) {
            int[] values = valuesFor(op);
            int[] all = withOp(values, op, operandFor(op));
            ManagedRuntime x = Program.of(all);
            x.method(0, 0, 50);
            due.is("op " + op + " on " + TAKES[op] + " values", x.run(0, 0), ManagedRuntime.ENDED);
            for (int missing = 1; missing <= TAKES[op]; missing++) {
                String what = "op " + op + " on " + missing + " too few";
                due.is(what, x.run(missing, 0), ManagedRuntime.STACK);
                due.is(what + ": steps", x.steps(), TAKES[op] - missing);
            }
        }
        // The values of the frame before are not on the stack of the frame that works.
        for (int op = 0; op < 24; op++) {
            ManagedRuntime x = Program.of(Op.PUSH, 1, Op.PUSH, 1, Op.PUSH, 1, Op.NEW, 0, Op.EMPTY, 0, Op.CALL, 0);
            x.method(0, 0, 20);
            x.code(20, op, operandFor(op));
            due.is("op " + op + " in a frame just called", x.run(0, 0), TAKES[op] > 0 ? ManagedRuntime.STACK : ManagedRuntime.ENDED);
        }
    }

    private static void tooManyValues(Due due) {
        for (int op = 0; op < 24; op++) {
            for (int depth = Math.max(TAKES[op], 4); depth <= 6; depth++) {
                int[] values = valuesFor(op);
                ManagedRuntime x = new ManagedRuntime();
                x.method(0, 0, 50);
                int below = depth - TAKES[op];
                for (int i = 0; i < below; i++) {
                    x.code(i, Op.EMPTY, 0);
                }
                Program.put(x, below, withOp(values, op, operandFor(op)));
                boolean fits = below + LEAVES[op] <= 6;
                String what = "op " + op + " on " + depth + " values";
                due.is(what, x.run(0, 0), fits ? ManagedRuntime.ENDED : ManagedRuntime.STACK);
                boolean ends = op == Op.STOP || op == Op.RETURN;
                due.is(what + ": steps", x.steps(), depth + (fits ? ends ? 1 : 2 : 0));
            }
        }
    }

    private static void wrongSort(Due due) {
        // What each instruction needs, as the table writes it: a, b ints, o an object, v, w any values.
        String[] needs = {"", "", "", "", "v", "v", "v", "vw", "ab", "ab", "ab", "ab", "vw", "", "a", "", "o", "ov", "v", "ov", "v", "", "v", "a"};
        int[] makes = {Op.EMPTY, Op.PUSH, Op.NEW};
        for (int op = 0; op < 24; op++) {
            for (int v = 0; v < 3; v++) {
                for (int w = 0; w < 3; w++) {
                    ManagedRuntime x = Program.of(makes[v], 0, makes[w], 0, op, operandFor(op));
                    x.method(0, 0, 50);
                    boolean fits = fit(needs[op], v, w);
                    String what = "op " + op + " on sorts " + v + " and " + w;
                    due.is(what, x.run(0, 0), fits ? ManagedRuntime.ENDED : ManagedRuntime.SORT);
                    boolean ends = op == Op.STOP || op == Op.RETURN;
                    due.is(what + ": steps", x.steps(), fits ? ends ? 3 : 4 : 2);
                }
            }
        }
    }

    private static boolean fit(String needs, int v, int w) {
        int[] sorts = {v, w};
        boolean fit = true;
        for (int k = 0; k < needs.length(); k++) {
            char need = needs.charAt(k);
            int sort = sorts[2 - needs.length() + k];
            fit &= need == 'v' || need == 'w' || sort == (need == 'o' ? 2 : 1);
        }
        return fit;
    }

    private static void memoryIsFull(Due due) {
        for (int level = 0; level < 3; level++) {
            for (int c = 0; c < 4; c++) {
                ManagedRuntime x = Program.of(Op.NEW, c, Op.STOP, 0);
                x.level(level);
                Program.keep(x, 15);
                due.is("15 are needed", x.run(0, 0), ManagedRuntime.ENDED);
                due.is("one was made", x.made(), 1);
                due.is("again, as that one is needed no more", x.run(0, 0), ManagedRuntime.ENDED);
                Program.keep(x, 1);
                due.is("16 are needed", x.run(0, 0), ManagedRuntime.MEMORY);
                due.is("none was made", x.made(), 0);
                due.is("it did not work", x.steps(), 0);
                x.clear(0);
                due.is("none is needed", x.run(0, 0), ManagedRuntime.ENDED);
            }
            sixteenInOneRun(due, level);
        }
    }

    // Only what was made may be forgotten, not what is needed: 16 are made and 15 of them kept.
    private static void sixteenInOneRun(Due due, int level) {
        ManagedRuntime x = Program.of(Op.NEW, 0, Op.NEW, 1, Op.POP, 0, Op.NEW, 1, Op.STOP, 0);
        x.level(level);
        Program.keep(x, 14);
        due.is("with the 16th let go, a 17th is made", x.run(0, 0), ManagedRuntime.ENDED);
        due.is("made", x.made(), 3);
        x.code(2, Op.STORE, 0);
        due.is("with the 16th in a local, none", x.run(0, 0), ManagedRuntime.MEMORY);
        due.is("made", x.made(), 2);
    }

    private static void noStart(Due due) {
        for (int c = 0; c < 4; c++) {
            for (int slot = 0; slot < 4; slot++) {
                ManagedRuntime x = Program.of(Op.NEW, c, Op.EMPTY, 0, Op.CALL, slot);
                String what = "class " + c + ", slot " + slot;
                due.is(what + ": no starts at all", x.run(0, 0), ManagedRuntime.MISSING);
                due.is(what + ": it did not work", x.steps(), 2);
                for (int other = 0; other < 16; other++) {
                    x.method(other / 4, other % 4, other == 4 * c + slot ? -1 : 50);
                }
                due.is(what + ": starts everywhere else", x.run(0, 0), ManagedRuntime.MISSING);
                x.method(c, slot, 0);
                due.is(what + ": start 0, which calls again", x.run(0, 0), ManagedRuntime.DEEP);
                x.method(c, slot, 59);
                due.is(what + ": start 59", x.run(0, 0), ManagedRuntime.ENDED);
                x.method(c, slot, -1);
                due.is(what + ": none again", x.run(0, 0), ManagedRuntime.MISSING);
                x.above(c, c - 1);
                due.is(what + ": one in the class above, if there is one", x.run(0, 0), c > 0 ? ManagedRuntime.ENDED : ManagedRuntime.MISSING);
            }
        }
    }

    private static void tooDeep(Due due) {
        // Each frame calls with an int less by 1; the one with 0 calls a method that stops at once.
        ManagedRuntime x = Program.of(Op.LOAD, 1, Op.ZERO, 8, Op.NEW, 0, Op.LOAD, 1, Op.PUSH, 1, Op.SUB, 0, Op.CALL, 0, Op.STOP, 0,
            Op.NEW, 0, Op.EMPTY, 0, Op.CALL, 1);
        x.method(0, 0, 0);
        x.method(0, 1, 50);
        for (int frames = 1; frames <= 10; frames++) {
            String what = "CALL with " + frames + " frames there";
            due.is(what, x.run(0, frames - 1), frames < 10 ? ManagedRuntime.ENDED : ManagedRuntime.DEEP);
            due.is(what + ": steps", x.steps(), 7 * (frames - 1) + (frames < 10 ? 6 : 4));
        }
        Program.put(x, 8, Op.PUSH, 3, Op.STOP, 0);
        due.is("10 frames and no CALL in the tenth", x.run(0, 9), ManagedRuntime.ENDED);
    }
}

/** Which ending comes first where two apply, and that an instruction that can't work changes nothing. */
public final class BoundaryOrderTest {
    private static final String FIRST = "with the first of these that applies";
    private static final String NOTHING = "and changes nothing";
    private static final int CODE = ManagedRuntime.CODE;
    private static final int TIRED = ManagedRuntime.TIRED;
    private static final int STACK = ManagedRuntime.STACK;
    private static final int SORT = ManagedRuntime.SORT;
    private static final int MEMORY = ManagedRuntime.MEMORY;
    private static final int MISSING = ManagedRuntime.MISSING;
    private static final int DEEP = ManagedRuntime.DEEP;

    public static void main(String[] args) {
        Due due = new Due();
        due.sentence(FIRST, BoundaryOrderTest::codeThenTired);
        due.sentence(FIRST, BoundaryOrderTest::tiredThenTheOthers);
        due.sentence(FIRST, BoundaryOrderTest::tiredThenDeep);
        due.sentence(FIRST, BoundaryOrderTest::stackThenSort);
        due.sentence(FIRST, BoundaryOrderTest::stackThenMemory);
        due.sentence(FIRST, BoundaryOrderTest::theOthersThenDeep);
        due.sentence(NOTHING, BoundaryOrderTest::codeChangesNothing);
        due.sentence(NOTHING, BoundaryOrderTest::tiredChangesNothing);
        due.sentence(NOTHING, BoundaryOrderTest::stackChangesNothing);
        due.sentence(NOTHING, BoundaryOrderTest::sortChangesNothing);
        due.sentence(NOTHING, BoundaryOrderTest::memoryChangesNothing);
        due.sentence(NOTHING, BoundaryOrderTest::callChangesNothing);
        due.end();
    }

    private static void codeThenTired(Due due) {
        for (int at : new int[] {-1, 60}) {
            ManagedRuntime x = new ManagedRuntime();
            due.is("at " + at + " after 299", Program.runAfter(x, 298, Op.JUMP, at), CODE);
            due.is("steps", x.steps(), 299);
            due.is("at " + at + " after 300", Program.runAfter(x, 299, Op.JUMP, at), CODE);
            due.is("steps", x.steps(), 300);
        }
        ManagedRuntime x = new ManagedRuntime();
        due.is("at 59 after 300", Program.runAfter(x, 299, Op.JUMP, 59), TIRED);
    }

    // What the last pair ends with if it may work, and that it is TIRED if 300 have worked before.
    private static void tiredFirst(Due due, ManagedRuntime x, int ending, int... pairs) {
        int before = pairs.length / 2 - 1;
        due.is("ending " + ending + " after 299", Program.runAfter(x, 299 - before, pairs), ending);
        due.is("steps", x.steps(), 299);
        due.is("ending " + ending + " after 300", Program.runAfter(x, 300 - before, pairs), TIRED);
        due.is("steps", x.steps(), 300);
    }

    private static void tiredThenTheOthers(Due due) {
        tiredFirst(due, new ManagedRuntime(), STACK, Op.POP, 0);
        tiredFirst(due, new ManagedRuntime(), STACK,
            Op.EMPTY, 0, Op.DUP, 0, Op.DUP, 0, Op.DUP, 0, Op.DUP, 0, Op.DUP, 0, Op.DUP, 0);
        tiredFirst(due, new ManagedRuntime(), SORT, Op.EMPTY, 0, Op.OUT, 0);
        ManagedRuntime full = new ManagedRuntime();
        Program.keep(full, 16);
        tiredFirst(due, full, MEMORY, Op.NEW, 0);
        tiredFirst(due, new ManagedRuntime(), MISSING, Op.NEW, 0, Op.EMPTY, 0, Op.CALL, 0);
    }

    // Nine frames call with 3 steps each, and in the tenth the CALL is the third instruction: 29 steps before it.
    private static void tiredThenDeep(Due due) {
        int[] chain = {Op.NEW, 0, Op.EMPTY, 0, Op.CALL, 0};
        for (int worked = 298; worked <= 300; worked++) {
            ManagedRuntime x = new ManagedRuntime();
            // The loop that counts is in front of the chain, so the chain's place depends on it.
            x.method(0, 0, 7 + (worked - 29 - 2) % 7);
            due.is("DEEP after " + worked, Program.runAfter(x, worked - 29, chain), worked < 300 ? DEEP : TIRED);
            due.is("steps", x.steps(), worked);
        }
    }

    private static void stackThenSort(Due due) {
        int[] needTwo = {Op.ADD, Op.SUB, Op.MUL, Op.LESS, Op.PUT, Op.CALL};
        for (int op : needTwo) {
            ManagedRuntime x = Program.of(Op.EMPTY, 0, Op.EMPTY, 0, op, 0);
            x.method(0, 0, 30);
            due.is("op " + op + " on two of a wrong sort", x.run(0, 0), SORT);
            due.is("op " + op + " on one of a wrong sort", x.run(1, 0), STACK);
            due.is("op " + op + " on none", x.run(2, 0), STACK);
        }
    }

    private static void stackThenMemory(Due due) {
        for (int depth = 5; depth <= 6; depth++) {
            ManagedRuntime x = new ManagedRuntime();
            for (int i = 0; i < depth; i++) {
                x.code(i, Op.EMPTY, 0);
            }
            x.code(depth, Op.NEW, 0);
            Program.keep(x, 16);
            due.is("memory is full, and " + depth + " values", x.run(0, 0), depth < 6 ? MEMORY : STACK);
            due.is("steps", x.steps(), depth);
            x.clear(0);
            due.is("memory is empty, and " + depth + " values", x.run(0, 0), depth < 6 ? ManagedRuntime.ENDED : STACK);
        }
    }

    // The frame with 0 in local 1, which is the tenth for the int 9, comes to instruction 20.
    private static ManagedRuntime nest(int... pairs) {
        ManagedRuntime x = Program.of(
            Op.LOAD, 1, Op.ZERO, 20, Op.NEW, 0, Op.LOAD, 1, Op.PUSH, 1, Op.SUB, 0, Op.CALL, 0);
        Program.put(x, 20, pairs);
        x.method(0, 0, 0);
        x.method(0, 1, 50);
        return x;
    }

    private static void theOthersThenDeep(Due due) {
        inTenthFrame(due, "too few values", STACK, STACK, Op.NEW, 0, Op.CALL, 1);
        inTenthFrame(due, "an int for an object", SORT, SORT, Op.PUSH, 0, Op.PUSH, 0, Op.CALL, 1);
        inTenthFrame(due, "nothing for an object", SORT, SORT, Op.EMPTY, 0, Op.PUSH, 0, Op.CALL, 1);
        inTenthFrame(due, "no start", MISSING, MISSING, Op.NEW, 0, Op.PUSH, 0, Op.CALL, 2);
        inTenthFrame(due, "a start", ManagedRuntime.ENDED, DEEP, Op.NEW, 0, Op.PUSH, 0, Op.CALL, 1);
    }

    private static void inTenthFrame(Due due, String what, int inNinth, int inTenth, int... pairs) {
        ManagedRuntime x = nest(pairs);
        due.is(what + " in the ninth frame", x.run(0, 8), inNinth);
        due.is(what + " in the tenth frame", x.run(0, 9), inTenth);
    }

    // An object of class 1 in global 0 with the int 41 in field 0, and the int 42 in global 1.
    private static ManagedRuntime prepared() {
        ManagedRuntime x = new ManagedRuntime();
        Program.put(x, 50, Op.NEW, 1, Op.DUP, 0, Op.PUSH, 41, Op.PUT, 0, Op.GIVE, 0, Op.PUSH, 42, Op.GIVE, 1);
        x.run(50, 0);
        return x;
    }

    private static void isAsPrepared(Due due, String what, ManagedRuntime x) {
        due.is(what + ": global 0", x.sort(0, 3), 2);
        due.is(what + ": its class", x.number(0, 3), 1);
        due.is(what + ": its field 0", x.number(0, 12), 41);
        due.is(what + ": its field 1", x.sort(0, 13), 0);
        due.is(what + ": its field 2", x.sort(0, 14), 0);
        due.is(what + ": global 1", x.number(1, 3), 42);
        due.is(what + ": global 2", x.sort(2, 3), 0);
        due.is(what + ": global 3", x.sort(3, 3), 0);
        due.is(what + ": needed", x.needed(), 1);
        due.is(what + ": gave no value", x.givenSort(), 0);
        due.is(what + ": given", x.given(), 0);
        due.is(what + ": printed", x.printed(), 0);
        due.is(what + ": output(0)", x.output(0), 0);
    }

    // The last pair can't work, and those before it change neither globals nor fields nor the output.
    private static void changesNothing(Due due, int ending, int made, int... pairs) {
        ManagedRuntime x = prepared();
        Program.put(x, 20, pairs);
        String what = "op " + pairs[pairs.length - 2] + " with ending " + ending;
        due.is(what, x.run(20, 0), ending);
        due.is(what + ": steps", x.steps(), pairs.length / 2 - 1);
        due.is(what + ": made", x.made(), made);
        isAsPrepared(due, what, x);
    }

    private static void codeChangesNothing(Due due) {
        for (int at : new int[] {-1, 60}) {
            ManagedRuntime x = prepared();
            due.is("run at " + at, x.run(at, 0), CODE);
            due.is("steps", x.steps(), 0);
            due.is("made", x.made(), 0);
            isAsPrepared(due, "run at " + at, x);
        }
    }

    private static void tiredChangesNothing(Due due) {
        int[][] rows = {
            {Op.PUSH, 7, Op.GIVE, 2}, {Op.PUSH, 7, Op.OUT, 0}, {Op.TAKE, 0, Op.PUSH, 7, Op.PUT, 1},
            {Op.NEW, 0}, {Op.PUSH, 7, Op.RETURN, 0}, {Op.NEW, 0, Op.RETURN, 0}, {Op.STOP, 0},
        };
        for (int[] row : rows) {
            ManagedRuntime x = prepared();
            int before = row.length / 2 - 1;
            String what = "op " + row[2 * before] + " after 300";
            due.is(what, Program.runAfter(x, 300 - before, row), TIRED);
            due.is(what + ": steps", x.steps(), 300);
            due.is(what + ": made", x.made(), row[0] == Op.NEW && before > 0 ? 1 : 0);
            isAsPrepared(due, what, x);
        }
    }

    private static void stackChangesNothing(Due due) {
        changesNothing(due, STACK, 0, Op.GIVE, 1);
        changesNothing(due, STACK, 0, Op.OUT, 0);
        changesNothing(due, STACK, 0, Op.RETURN, 0);
        changesNothing(due, STACK, 0, Op.TAKE, 0, Op.PUT, 0);
        changesNothing(due, STACK, 0, Op.PUSH, 1, Op.DUP, 0, Op.DUP, 0, Op.DUP, 0, Op.DUP, 0, Op.DUP, 0, Op.NEW, 1);
        changesNothing(due, STACK, 0, Op.PUSH, 1, Op.DUP, 0, Op.DUP, 0, Op.DUP, 0, Op.DUP, 0, Op.DUP, 0, Op.DUP, 0);
    }

    private static void sortChangesNothing(Due due) {
        changesNothing(due, SORT, 0, Op.EMPTY, 0, Op.OUT, 0);
        changesNothing(due, SORT, 0, Op.TAKE, 0, Op.OUT, 0);
        changesNothing(due, SORT, 0, Op.PUSH, 0, Op.PUSH, 9, Op.PUT, 0);
        changesNothing(due, SORT, 0, Op.EMPTY, 0, Op.PUSH, 9, Op.PUT, 0);
        changesNothing(due, SORT, 0, Op.PUSH, 9, Op.TAKE, 0, Op.PUT, 0);
        changesNothing(due, SORT, 0, Op.PUSH, 9, Op.TAKE, 0, Op.ADD, 0);
        changesNothing(due, SORT, 1, Op.NEW, 2, Op.ZERO, 0);
    }

    private static void memoryChangesNothing(Due due) {
        ManagedRuntime x = Program.of(Op.NEW, 3, Op.GIVE, 0);
        Program.keep(x, 16);
        for (int level = 0; level < 3; level++) {
            x.level(level);
            due.is("run", x.run(0, 0), MEMORY);
            due.is("steps", x.steps(), 0);
            due.is("made", x.made(), 0);
            due.is("needed", x.needed(), 16);
            // Seven steps along field 0 are as many as a path has.
            for (int path = 3, k = 0; k < 8; path *= 4, k++) {
                due.is("sort of object " + k, x.sort(0, path), 2);
                due.is("class of object " + k, x.number(0, path), 0);
            }
        }
    }

    private static void callChangesNothing(Due due) {
        changesNothing(due, MISSING, 0, Op.TAKE, 0, Op.PUSH, 5, Op.CALL, 0);
        ManagedRuntime x = prepared();
        Program.put(x, 20, Op.TAKE, 0, Op.PUSH, 5, Op.CALL, 0);
        x.method(1, 0, 20);
        due.is("too deep", x.run(20, 0), DEEP);
        due.is("steps", x.steps(), 29);
        due.is("made", x.made(), 0);
        isAsPrepared(due, "too deep", x);
    }
}

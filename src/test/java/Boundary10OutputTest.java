/** The boundary cases of promises 10 and 11. */
public final class Boundary10OutputTest {
    private static final int MIN = Integer.MIN_VALUE;
    private static final int MAX = Integer.MAX_VALUE;

    public static void main(String[] args) {
        Due due = new Due();
        due.sentence("The number of ints in the output", Boundary10OutputTest::number);
        due.sentence("Int number k of the output, from 0", Boundary10OutputTest::fromZero);
        due.sentence("0 if there is none", Boundary10OutputTest::none);
        due.sentence("or k is above 19", Boundary10OutputTest::aboveNineteen);
        due.end();
    }

    // Prints 1000, 1001 and so on, as many ints as told: 11 steps to each, so 24 of them can be told.
    private static ManagedRuntime printing(int ints) {
        ManagedRuntime x = Program.of(Op.LOAD, 1, Op.ZERO, 30, Op.PUSH, 1000 + ints, Op.LOAD, 1, Op.SUB, 0, Op.OUT, 0,
            Op.LOAD, 1, Op.PUSH, 1, Op.SUB, 0, Op.STORE, 1, Op.JUMP, 0);
        if (x.run(0, ints) != ManagedRuntime.ENDED) {
            throw new IllegalStateException("the ints were not printed");
        }
        return x;
    }

    private static void number(Due due) {
        due.is("before any run", new ManagedRuntime().printed(), 0);
        for (int ints = 0; ints <= 24; ints++) {
            due.is("printed", printing(ints).printed(), ints);
        }
        // Two steps to each int: 29 of them to a round of 59 steps, five rounds and 5 steps more.
        ManagedRuntime x = new ManagedRuntime();
        for (int i = 0; i < 58; i += 2) {
            Program.put(x, i, Op.PUSH, i, Op.OUT, 0);
        }
        x.code(58, Op.JUMP, 0);
        due.is("run", x.run(0, 0), ManagedRuntime.TIRED);
        due.is("as many as a run can print", x.printed(), 147);
        x.run(60, 0);
        due.is("none in the next run", x.printed(), 0);
        Program.put(x, 0, Op.PUSH, 1, Op.OUT, 0, Op.EMPTY, 0, Op.OUT, 0);
        due.is("run", x.run(0, 0), ManagedRuntime.SORT);
        due.is("nothing is no int in the output", x.printed(), 1);
    }

    private static void fromZero(Due due) {
        for (int ints : new int[] {1, 2, 19, 20, 21, 24}) {
            ManagedRuntime x = printing(ints);
            for (int k = 0; k < Math.min(ints, 20); k++) {
                due.is("output(" + k + ") of " + ints, x.output(k), 1000 + k);
            }
        }
        for (int a : new int[] {MIN, -1, 0, 1, MAX}) {
            ManagedRuntime x = Program.of(Op.LOAD, 1, Op.OUT, 0);
            x.run(0, a);
            due.is("the int " + a, x.output(0), a);
        }
    }

    private static void none(Due due) {
        due.is("before any run", new ManagedRuntime().output(0), 0);
        for (int ints : new int[] {0, 1, 2, 19, 20, 24}) {
            ManagedRuntime x = printing(ints);
            for (int k : new int[] {MIN, -2, -1}) {
                due.is("output(" + k + ") of " + ints, x.output(k), 0);
            }
            due.is("the last of " + ints, x.output(ints - 1), ints == 0 || ints > 20 ? 0 : 999 + ints);
            due.is("the one after the last of " + ints, x.output(ints), 0);
            // The ints of a longer run before are there no more.
            x.run(30, 0);
            due.is("output(0) of a run that printed none", x.output(0), 0);
        }
    }

    private static void aboveNineteen(Due due) {
        for (int ints : new int[] {20, 21, 22, 24}) {
            ManagedRuntime x = printing(ints);
            due.is("output(19) of " + ints, x.output(19), 1019);
            for (int k : new int[] {20, 21, 22, 23, 24, MAX}) {
                due.is("output(" + k + ") of " + ints, x.output(k), 0);
            }
        }
    }
}

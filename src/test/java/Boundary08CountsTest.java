/** The boundary cases of promises 8 and 9. */
public final class Boundary08CountsTest {
    public static void main(String[] args) {
        Due due = new Due();
        due.sentence("How many instructions worked in the latest run", Boundary08CountsTest::steps);
        due.sentence("0 before any", Boundary08CountsTest::noSteps);
        due.sentence("How many objects were made in the latest run", Boundary08CountsTest::made);
        due.sentence("0 before any", Boundary08CountsTest::noneMade);
        due.end();
    }

    private static void steps(Due due) {
        ManagedRuntime x = new ManagedRuntime();
        due.is("run", x.run(60, 0), ManagedRuntime.CODE);
        due.is("none worked", x.steps(), 0);
        due.is("run", x.run(59, 0), ManagedRuntime.ENDED);
        due.is("STOP worked", x.steps(), 1);
        x.code(0, Op.POP, 0);
        due.is("run", x.run(0, 0), ManagedRuntime.STACK);
        due.is("POP could not work", x.steps(), 0);
        Program.put(x, 0, Op.PUSH, 1, Op.RETURN, 0);
        due.is("run", x.run(0, 0), ManagedRuntime.ENDED);
        due.is("RETURN worked", x.steps(), 2);
        for (int worked = 298; worked <= 301; worked++) {
            ManagedRuntime y = new ManagedRuntime();
            int ending = Program.runAfter(y, worked - 1, Op.STOP, 0);
            due.is("a STOP as step " + worked, ending, worked > 300 ? ManagedRuntime.TIRED : ManagedRuntime.ENDED);
            due.is("steps", y.steps(), Math.min(worked, 300));
            y.run(59, 0);
            due.is("of the latest run alone", y.steps(), 1);
        }
    }

    private static void noSteps(Due due) {
        ManagedRuntime x = new ManagedRuntime();
        due.is("of a new object", x.steps(), 0);
        x.code(0, Op.PUSH, 1);
        x.method(0, 0, 0);
        x.above(1, 0);
        x.clear(0);
        x.needed();
        due.is("after other calls", x.steps(), 0);
        x.run(0, 0);
        due.is("after a run", x.steps(), 2);
    }

    private static void made(Due due) {
        ManagedRuntime x = Program.of(Op.NEW, 0, Op.POP, 0, Op.JUMP, 0);
        due.is("run", x.run(0, 0), ManagedRuntime.TIRED);
        due.is("more than fit at once", x.made(), 100);
        due.is("run", x.run(1, 0), ManagedRuntime.STACK);
        due.is("none", x.made(), 0);
        x.code(2, Op.STOP, 0);
        x.run(0, 0);
        due.is("one", x.made(), 1);
        Program.keep(x, 15);
        Program.put(x, 10, Op.NEW, 0, Op.NEW, 0);
        due.is("run", x.run(10, 0), ManagedRuntime.MEMORY);
        due.is("one, and one that could not be made", x.made(), 1);
        Program.keep(x, 1);
        due.is("run", x.run(10, 0), ManagedRuntime.MEMORY);
        due.is("only one that could not be made", x.made(), 0);
        x.clear(0);
        for (int i = 0; i < 7; i++) {
            x.code(20 + i, Op.NEW, 0);
        }
        due.is("run", x.run(20, 0), ManagedRuntime.STACK);
        due.is("six, and one for which the stack had no room", x.made(), 6);
    }

    private static void noneMade(Due due) {
        ManagedRuntime x = new ManagedRuntime();
        due.is("of a new object", x.made(), 0);
        x.code(0, Op.NEW, 1);
        x.needed();
        due.is("after other calls", x.made(), 0);
        x.run(0, 0);
        due.is("after a run", x.made(), 1);
        x.needed();
        x.clear(0);
        due.is("after calls that let it go", x.made(), 1);
    }
}

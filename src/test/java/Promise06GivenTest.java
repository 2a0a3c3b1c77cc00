/** Promises 6 and 7: what the latest run gave. */
public final class Promise06GivenTest {
    public static void main(String[] args) {
        Due due = new Due();
        ManagedRuntime x = Program.of(Op.LOAD, 1, Op.RETURN, 0);
        asDue(due, "before any run", x, 0, 0);
        for (int a : new int[] {Integer.MIN_VALUE, -1, 0, 1, Integer.MAX_VALUE}) {
            x.run(0, a);
            asDue(due, "an int", x, 1, a);
        }
        x.run(30, 0);
        asDue(due, "a run that stopped", x, 0, 0);
        x.run(0, 5);
        x.run(-1, 5);
        asDue(due, "a run that failed at once", x, 0, 0);
        x.run(0, 5);
        x.code(2, Op.JUMP, 2);
        x.run(2, 5);
        asDue(due, "a run that was tired", x, 0, 0);
        x.run(0, 5);
        Program.put(x, 4, Op.EMPTY, 0, Op.RETURN, 0);
        x.run(4, 5);
        asDue(due, "nothing", x, 0, 0);
        for (int c = 0; c < 4; c++) {
            Program.put(x, 4, Op.NEW, c, Op.RETURN, 0);
            x.run(4, 5);
            asDue(due, "an object", x, 2, c);
            due.is("which is not kept", x.needed(), 0);
        }
        stays(due);
        due.end();
    }

    // The class is told also after the object's place may have gone to another one.
    private static void stays(Due due) {
        ManagedRuntime x = Program.of(Op.NEW, 3, Op.DUP, 0, Op.GIVE, 0, Op.RETURN, 0);
        x.run(0, 0);
        x.clear(0);
        x.needed();
        x.sort(0, 3);
        x.code(0, Op.NEW, 1);
        x.above(3, 1);
        x.level(0);
        asDue(due, "other calls leave it", x, 2, 3);
        x.run(0, 0);
        asDue(due, "the next run", x, 2, 1);
    }

    private static void asDue(Due due, String what, ManagedRuntime x, int sort, int number) {
        due.is(what + ": givenSort", x.givenSort(), sort);
        due.is(what + ": given", x.given(), number);
    }
}

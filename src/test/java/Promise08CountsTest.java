/** Promises 8 and 9: how many instructions worked and how many objects were made. */
public final class Promise08CountsTest {
    public static void main(String[] args) {
        Due due = new Due();
        ManagedRuntime x = Program.of(Op.NEW, 1, Op.POP, 0, Op.NEW, 2, Op.RETURN, 0, Op.PUSH, 1, Op.GET, 0);
        counts(due, "before any run", x, 0, 0);
        x.run(0, 0);
        counts(due, "a run with RETURN", x, 4, 2);
        x.run(2, 0);
        counts(due, "the latest run alone", x, 2, 1);
        x.run(4, 0);
        counts(due, "the one that can't work does not count", x, 1, 0);
        x.run(20, 0);
        counts(due, "STOP counts", x, 1, 0);
        x.run(60, 0);
        counts(due, "CODE at once", x, 0, 0);
        Program.put(x, 30, Op.NEW, 0, Op.POP, 0, Op.JUMP, 30);
        x.run(30, 0);
        counts(due, "objects that went are counted too", x, 300, 100);
        x.code(0, Op.STOP, 0);
        x.needed();
        x.clear(0);
        counts(due, "other calls leave them", x, 300, 100);
        Program.put(x, 40, Op.NEW, 0, Op.DUP, 0, Op.CALL, 0, Op.RETURN, 0, Op.NEW, 3, Op.RETURN, 0);
        x.method(0, 0, 44);
        x.run(40, 0);
        counts(due, "over frames", x, 6, 2);
        due.end();
    }

    private static void counts(Due due, String what, ManagedRuntime x, int steps, int made) {
        due.is(what + ": steps", x.steps(), steps);
        due.is(what + ": made", x.made(), made);
    }
}

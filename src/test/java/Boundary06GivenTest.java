/** The boundary cases of promises 6 and 7. */
public final class Boundary06GivenTest {
    public static void main(String[] args) {
        Due due = new Due();
        due.sentence("0 nothing (or it gave no value, or there was no run)", Boundary06GivenTest::nothing);
        due.sentence("The int that the latest run gave", Boundary06GivenTest::anInt);
        due.sentence("or the class of the object", Boundary06GivenTest::anObject);
        due.sentence("(as the object is not kept by this, only its class is known)", Boundary06GivenTest::notKept);
        due.sentence("0 else", Boundary06GivenTest::zeroElse);
        due.end();
    }

    private static void gave(Due due, String what, ManagedRuntime x, int sort, int number) {
        due.is(what + ": givenSort", x.givenSort(), sort);
        due.is(what + ": given", x.given(), number);
    }

    // Each run that gives no value comes after one that gave an int and after one that gave an object.
    private static void nothing(Due due) {
        ManagedRuntime x = Program.of(Op.PUSH, 9, Op.RETURN, 0, Op.NEW, 3, Op.RETURN, 0, Op.EMPTY, 0, Op.RETURN, 0);
        gave(due, "there was no run", x, 0, 0);
        Program.put(x, 10, Op.PUSH, 9, Op.STOP, 0);
        Program.put(x, 20, Op.JUMP, 20);
        Program.put(x, 30, Op.PUSH, 9, Op.ADD, 0);
        Program.put(x, 40, Op.NEW, 3, Op.PUSH, 9, Op.CALL, 0);
        int[] starts = {4, 10, 20, 30, 40, 60, -1, 1};
        for (int before : new int[] {0, 2}) {
            for (int start : starts) {
                x.run(before, 0);
                gave(due, "the run before", x, before == 0 ? 1 : 2, before == 0 ? 9 : 3);
                x.run(start, 0);
                gave(due, "run at " + start, x, 0, 0);
            }
        }
    }

    private static void anInt(Due due) {
        ManagedRuntime x = Program.of(Op.LOAD, 1, Op.RETURN, 0);
        for (int a : new int[] {Integer.MIN_VALUE, Integer.MIN_VALUE + 1, -2, -1, 0, 1, 2, 3, Integer.MAX_VALUE - 1, Integer.MAX_VALUE}) {
            x.run(0, a);
            gave(due, "the int " + a, x, 1, a);
        }
    }

    private static void anObject(Due due) {
        for (int c = 0; c < 4; c++) {
            ManagedRuntime x = Program.of(Op.NEW, c, Op.RETURN, 0);
            due.is("run", x.run(0, 7), ManagedRuntime.ENDED);
            gave(due, "an object of class " + c, x, 2, c);
        }
    }

    private static void notKept(Due due) {
        ManagedRuntime x = Program.of(Op.NEW, 3, Op.RETURN, 0);
        for (int level = 0; level < 3; level++) {
            x.level(level);
            x.clear(0);
            Program.keep(x, 15);
            due.is("the 16th object is given", x.run(0, 0), ManagedRuntime.ENDED);
            gave(due, "given", x, 2, 3);
            due.is("it is not needed", x.needed(), 15);
            Program.keep(x, 1);
            gave(due, "a later run gave no value", x, 0, 0);
            due.is("a 17th", x.run(0, 0), ManagedRuntime.MEMORY);
            gave(due, "a run that failed", x, 0, 0);
        }
        x.clear(0);
        x.run(0, 0);
        x.code(0, Op.NEW, 1);
        x.above(3, 1);
        x.needed();
        x.level(0);
        gave(due, "its class is still known", x, 2, 3);
    }

    private static void zeroElse(Due due) {
        ManagedRuntime x = Program.of(Op.NEW, 3, Op.PUSH, 8, Op.RETURN, 0);
        due.is("before any run", x.given(), 0);
        x.run(0, 7);
        due.is("an int", x.given(), 8);
        x.code(2, Op.STOP, 0);
        x.run(0, 7);
        due.is("no value, with an object and an int on the stack", x.given(), 0);
        x.code(1, Op.RETURN, 0);
        x.run(0, 7);
        due.is("an object", x.given(), 3);
        x.code(0, Op.EMPTY, 0);
        x.run(0, 7);
        due.is("nothing", x.given(), 0);
    }
}

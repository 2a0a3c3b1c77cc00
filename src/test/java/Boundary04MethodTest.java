/** The boundary cases of promise 4. */
public final class Boundary04MethodTest {
    private static final int MIN = Integer.MIN_VALUE;
    private static final int MAX = Integer.MAX_VALUE;

    public static void main(String[] args) {
        Due due = new Due();
        due.sentence("Gives class c a start in a slot", Boundary04MethodTest::gives);
        due.sentence("(-1: none)", Boundary04MethodTest::none);
        due.sentence("c or slot outside 0..3", Boundary04MethodTest::classes);
        due.sentence("c or slot outside 0..3", Boundary04MethodTest::slots);
        due.sentence("or start outside -1..59: refused, answers false", Boundary04MethodTest::starts);
        due.sentence("Else true", Boundary04MethodTest::elseTrue);
        due.end();
    }

    // Sixteen methods, of which the one in slot s of class c gives 4 * c + s: a refused call must leave them so.
    private static ManagedRuntime sixteen() {
        ManagedRuntime x = new ManagedRuntime();
        for (int k = 0; k < 16; k++) {
            Program.put(x, 10 + 2 * k, Op.PUSH, k, Op.RETURN, 0);
            x.method(k / 4, k % 4, 10 + 2 * k);
        }
        return x;
    }

    private static int call(ManagedRuntime x, int k) {
        Program.put(x, 0, Op.NEW, k / 4, Op.EMPTY, 0, Op.CALL, k % 4, Op.RETURN, 0);
        return x.run(0, 0);
    }

    private static void areSixteen(Due due, String what, ManagedRuntime x) {
        for (int k = 0; k < 16; k++) {
            due.is(what + ": call " + k, call(x, k), ManagedRuntime.ENDED);
            due.is(what + ": sort " + k, x.givenSort(), 1);
            due.is(what + ": given " + k, x.given(), k);
        }
    }

    private static void gives(Due due) {
        areSixteen(due, "each has its own", sixteen());
        for (int k = 0; k < 16; k++) {
            ManagedRuntime x = new ManagedRuntime();
            Program.put(x, 10, Op.PUSH, 7, Op.RETURN, 0);
            x.method(k / 4, k % 4, 10);
            for (int other = 0; other < 16; other++) {
                due.is("a start in " + k + ", call " + other, call(x, other), other == k ? ManagedRuntime.ENDED : ManagedRuntime.MISSING);
            }
        }
        for (int start : new int[] {0, 1, 58, 59}) {
            ManagedRuntime x = new ManagedRuntime();
            Program.put(x, 20, Op.NEW, 0, Op.EMPTY, 0, Op.CALL, 0);
            x.method(0, 0, start);
            due.is("start " + start, x.run(20, 0), ManagedRuntime.ENDED);
            x.code(start, Op.POP, 0);
            due.is("POP at start " + start, x.run(20, 0), ManagedRuntime.STACK);
        }
    }

    private static void none(Due due) {
        ManagedRuntime x = sixteen();
        for (int k = 0; k < 16; k++) {
            due.is("before", call(x, k), ManagedRuntime.ENDED);
            due.yes("method(" + k / 4 + ", " + k % 4 + ", -1)", x.method(k / 4, k % 4, -1));
            due.is("after", call(x, k), ManagedRuntime.MISSING);
        }
    }

    private static void classes(Due due) {
        for (int c : new int[] {MIN, -1, 4, MAX}) {
            ManagedRuntime x = sixteen();
            for (int start : new int[] {-1, 0, 59}) {
                due.no("method(" + c + ", 0, " + start + ")", x.method(c, 0, start));
                due.no("method(" + c + ", 3, " + start + ")", x.method(c, 3, start));
            }
            areSixteen(due, "refused for class " + c, x);
        }
        due.yes("class 0", new ManagedRuntime().method(0, 0, 0));
        due.yes("class 3", new ManagedRuntime().method(3, 0, 0));
    }

    private static void slots(Due due) {
        for (int slot : new int[] {MIN, -1, 4, MAX}) {
            ManagedRuntime x = sixteen();
            for (int start : new int[] {-1, 0, 59}) {
                due.no("method(0, " + slot + ", " + start + ")", x.method(0, slot, start));
                due.no("method(1, " + slot + ", " + start + ")", x.method(1, slot, start));
            }
            areSixteen(due, "refused for slot " + slot, x);
        }
        due.yes("slot 0", new ManagedRuntime().method(0, 0, 0));
        due.yes("slot 3", new ManagedRuntime().method(0, 3, 0));
    }

    private static void starts(Due due) {
        for (int start : new int[] {MIN, -3, -2, 60, 61, MAX}) {
            ManagedRuntime x = sixteen();
            for (int k = 0; k < 16; k++) {
                due.no("start " + start, x.method(k / 4, k % 4, start));
            }
            areSixteen(due, "refused for start " + start, x);
        }
        due.yes("start -1", new ManagedRuntime().method(0, 0, -1));
        due.yes("start 59", new ManagedRuntime().method(0, 0, 59));
    }

    private static void elseTrue(Due due) {
        for (int k = 0; k < 16; k++) {
            ManagedRuntime x = new ManagedRuntime();
            for (int start = -2; start <= 60; start++) {
                due.is("start " + start, x.method(k / 4, k % 4, start) ? 1 : 0, start >= -1 && start <= 59 ? 1 : 0);
            }
        }
    }
}

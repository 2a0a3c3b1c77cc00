/** The boundary cases of promise 3. */
public final class Boundary03AboveTest {
    private static final int MIN = Integer.MIN_VALUE;
    private static final int MAX = Integer.MAX_VALUE;

    public static void main(String[] args) {
        Due due = new Due();
        due.sentence("Puts class a above class c", Boundary03AboveTest::puts);
        due.sentence("(a = -1: none)", Boundary03AboveTest::none);
        due.sentence("c outside 0..3", Boundary03AboveTest::classes);
        due.sentence("or a below -1", Boundary03AboveTest::tooLow);
        due.sentence("or not below c: refused, answers false", Boundary03AboveTest::notBelow);
        due.sentence("Else true", Boundary03AboveTest::elseTrue);
        due.end();
    }

    private static int is(ManagedRuntime x, int c, int n) {
        Program.put(x, 0, Op.NEW, c, Op.IS, n, Op.RETURN, 0);
        x.run(0, 0);
        return x.given();
    }

    // Each class above the next: a refused call must leave it so.
    private static ManagedRuntime ladder() {
        ManagedRuntime x = new ManagedRuntime();
        for (int c = 1; c < 4; c++) {
            x.above(c, c - 1);
        }
        return x;
    }

    private static void isLadder(Due due, String what, ManagedRuntime x) {
        for (int c = 0; c < 4; c++) {
            for (int n = 0; n < 4; n++) {
                due.is(what + ": " + c + " is " + n, is(x, c, n), n <= c ? 1 : 0);
            }
        }
    }

    private static void puts(Due due) {
        for (int c = 1; c < 4; c++) {
            for (int a = 0; a < c; a++) {
                ManagedRuntime x = new ManagedRuntime();
                due.yes("above(" + c + ", " + a + ")", x.above(c, a));
                for (int n = 0; n < 4; n++) {
                    due.is(c + " is " + n, is(x, c, n), n == c || n == a ? 1 : 0);
                    due.is(a + " is " + n, is(x, a, n), n == a ? 1 : 0);
                }
            }
        }
        ManagedRuntime x = ladder();
        x.above(3, 0);
        due.is("the class above is another one now", is(x, 3, 2), 0);
        due.is("3 is 0", is(x, 3, 0), 1);
    }

    private static void none(Due due) {
        for (int c = 0; c < 4; c++) {
            ManagedRuntime x = ladder();
            due.yes("above(" + c + ", -1)", x.above(c, -1));
            for (int n = 0; n < 4; n++) {
                due.is(c + " is " + n, is(x, c, n), n == c ? 1 : 0);
                due.is("3 is " + n, is(x, 3, n), n >= c ? 1 : 0);
            }
        }
    }

    private static void classes(Due due) {
        for (int c : new int[] {MIN, -2, -1, 4, 5, MAX}) {
            for (int a : new int[] {-1, 0, 3}) {
                ManagedRuntime x = ladder();
                due.no("above(" + c + ", " + a + ")", x.above(c, a));
                isLadder(due, "above(" + c + ", " + a + ")", x);
            }
        }
        due.yes("above(0, -1)", new ManagedRuntime().above(0, -1));
        due.yes("above(3, -1)", new ManagedRuntime().above(3, -1));
    }

    private static void tooLow(Due due) {
        for (int c = 0; c < 4; c++) {
            ManagedRuntime x = ladder();
            for (int a : new int[] {MIN, -3, -2}) {
                due.no("above(" + c + ", " + a + ")", x.above(c, a));
            }
            isLadder(due, "after refused calls", x);
            due.yes("above(" + c + ", -1)", x.above(c, -1));
        }
    }

    private static void notBelow(Due due) {
        for (int c = 0; c < 4; c++) {
            ManagedRuntime x = ladder();
            for (int a : new int[] {c, c + 1, 4, MAX}) {
                due.no("above(" + c + ", " + a + ")", x.above(c, a));
            }
            isLadder(due, "after refused calls", x);
            due.yes("above(" + c + ", " + (c - 1) + ")", x.above(c, c - 1));
        }
    }

    private static void elseTrue(Due due) {
        for (int c = 0; c < 4; c++) {
            for (int a = -1; a < 4; a++) {
                due.is("above(" + c + ", " + a + ")", new ManagedRuntime().above(c, a) ? 1 : 0, a < c ? 1 : 0);
            }
        }
    }
}

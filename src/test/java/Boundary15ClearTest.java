/** The boundary cases of promise 15. */
public final class Boundary15ClearTest {
    public static void main(String[] args) {
        Due due = new Due();
        due.sentence("Makes a global nothing", Boundary15ClearTest::makesNothing);
        due.sentence("false for g outside 0..3", Boundary15ClearTest::outside);
        due.end();
    }

    // A value of each sort: an object of class 2, the int 0, nothing, an object of class 1.
    private static ManagedRuntime filled() {
        ManagedRuntime x = Program.of(Op.NEW, 2, Op.GIVE, 0, Op.PUSH, 0, Op.GIVE, 1, Op.NEW, 1, Op.GIVE, 3);
        x.run(0, 0);
        return x;
    }

    private static void globalsAre(Due due, String what, ManagedRuntime x, int cleared) {
        int[] sorts = {2, 1, 0, 2};
        int[] numbers = {2, 0, 0, 1};
        for (int g = 0; g < 4; g++) {
            due.is(what + ": sort of global " + g, x.sort(g, 3), g == cleared ? 0 : sorts[g]);
            due.is(what + ": number of global " + g, x.number(g, 3), g == cleared ? 0 : numbers[g]);
        }
        due.is(what + ": needed", x.needed(), cleared == 0 || cleared == 3 ? 1 : 2);
    }

    private static void makesNothing(Due due) {
        for (int g = 0; g < 4; g++) {
            ManagedRuntime x = filled();
            globalsAre(due, "before", x, -1);
            due.yes("clear(" + g + ")", x.clear(g));
            globalsAre(due, "after clear(" + g + ")", x, g);
            due.yes("clear(" + g + ") again", x.clear(g));
            globalsAre(due, "after clear(" + g + ") again", x, g);
        }
        // What was in the global stays as it is if there is another way to it.
        ManagedRuntime x = Program.of(Op.NEW, 2, Op.GIVE, 0, Op.NEW, 1, Op.DUP, 0, Op.TAKE, 0, Op.PUT, 0, Op.GIVE, 3,
            Op.TAKE, 0, Op.PUSH, 6, Op.PUT, 2);
        x.run(0, 0);
        x.clear(0);
        due.is("needed", x.needed(), 2);
        due.is("class over the other way", x.number(3, 12), 2);
        due.is("field over the other way", x.number(3, 3 * 16 + 2 * 4), 6);
    }

    private static void outside(Due due) {
        for (int g : new int[] {Integer.MIN_VALUE, -2, -1, 4, 5, Integer.MAX_VALUE}) {
            ManagedRuntime x = filled();
            due.no("clear(" + g + ")", x.clear(g));
            globalsAre(due, "after clear(" + g + ")", x, -1);
        }
        due.yes("clear(0)", new ManagedRuntime().clear(0));
        due.yes("clear(3)", new ManagedRuntime().clear(3));
    }
}

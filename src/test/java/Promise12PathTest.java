/** Promises 12 and 13: sort and number of what a path leads to. */
public final class Promise12PathTest {
    private static final int BAD = ManagedRuntime.BAD;
    private static final int NO_OBJECT = ManagedRuntime.NO_OBJECT;

    public static void main(String[] args) {
        Due due = new Due();
        // Global 1: an object of class 3 with an int, an object of class 2 and nothing;
        // that one's field 2 is the first object again, its field 0 is 0. Global 2 is an int.
        ManagedRuntime x = Program.of(Op.NEW, 3, Op.GIVE, 1, Op.NEW, 2, Op.STORE, 2,
            Op.TAKE, 1, Op.PUSH, -8, Op.PUT, 0, Op.TAKE, 1, Op.LOAD, 2, Op.PUT, 1,
            Op.LOAD, 2, Op.TAKE, 1, Op.PUT, 2, Op.LOAD, 2, Op.PUSH, 0, Op.PUT, 0, Op.PUSH, 77, Op.GIVE, 2);
        due.is("run", x.run(0, 0), ManagedRuntime.ENDED);
        good(due, x);
        bad(due, x);
        noObject(due, x);
        due.end();
    }

    private static void at(Due due, ManagedRuntime x, int g, int path, int sort, int number) {
        due.is("sort(" + g + ", " + path + ")", x.sort(g, path), sort);
        due.is("number(" + g + ", " + path + ")", x.number(g, path), number);
    }

    // The path over the fields, in the order in which one goes.
    private static int path(int... fields) {
        int path = 3;
        for (int i = fields.length - 1; i >= 0; i--) {
            path = path * 4 + fields[i];
        }
        return path;
    }

    private static void good(Due due, ManagedRuntime x) {
        due.is("the document's path", path(1), 13);
        at(due, x, 0, path(), 0, 0);
        at(due, x, 1, path(), 2, 3);
        at(due, x, 2, path(), 1, 77);
        at(due, x, 3, path(), 0, 0);
        at(due, x, 1, path(0), 1, -8);
        at(due, x, 1, path(1), 2, 2);
        at(due, x, 1, path(2), 0, 0);
        at(due, x, 1, path(1, 0), 1, 0);
        at(due, x, 1, path(1, 1), 0, 0);
        at(due, x, 1, path(1, 2), 2, 3);
        at(due, x, 1, path(1, 2, 1, 2, 1, 2, 1), 2, 2);
        at(due, x, 1, path(1, 2, 1, 2, 1, 2, 0), 1, -8);
        // What comes above the first digit 3 does not matter.
        at(due, x, 1, 65535, 2, 3);
        at(due, x, 1, 4 * 13 + 3, 2, 3);
        at(due, x, 1, 16 * 2 + 13, 2, 2);
        at(due, x, 2, 3 + 4 * 1, 1, 77);
    }

    private static void bad(Due due, ManagedRuntime x) {
        for (int g : new int[] {-1, 4, 5, Integer.MIN_VALUE, Integer.MAX_VALUE}) {
            at(due, x, g, 3, BAD, 0);
            at(due, x, g, 12, BAD, 0);
        }
        for (int path : new int[] {-1, -13, 65536, 65536 + 3, Integer.MIN_VALUE, Integer.MAX_VALUE, 3 << 16}) {
            at(due, x, 1, path, BAD, 0);
        }
        // No digit 3, and BAD comes before NO_OBJECT.
        for (int g = 0; g < 4; g++) {
            for (int path : new int[] {0, 1, 2, 4, 10922, 43690, 2 << 14, 16}) {
                at(due, x, g, path, BAD, 0);
            }
        }
    }

    private static void noObject(Due due, ManagedRuntime x) {
        at(due, x, 0, path(0), NO_OBJECT, 0);
        at(due, x, 2, path(1), NO_OBJECT, 0);
        at(due, x, 1, path(0, 0), NO_OBJECT, 0);
        at(due, x, 1, path(2, 1), NO_OBJECT, 0);
        at(due, x, 1, path(1, 2, 1, 2, 1, 0, 0), NO_OBJECT, 0);
        at(due, x, 1, path(0, 0, 0, 0, 0, 0, 0), NO_OBJECT, 0);
        at(due, x, 3, 3 << 14, NO_OBJECT, 0);
    }
}

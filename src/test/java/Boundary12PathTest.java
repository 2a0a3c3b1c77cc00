/** The boundary cases of promises 12 and 13. */
public final class Boundary12PathTest {
    private static final int MIN = Integer.MIN_VALUE;
    private static final int MAX = Integer.MAX_VALUE;
    private static final int BAD = ManagedRuntime.BAD;
    private static final int NO_OBJECT = ManagedRuntime.NO_OBJECT;

    public static void main(String[] args) {
        Due due = new Due();
        due.sentence("digits to base 4, the lowest first, say which field comes next (0 to 2)", Boundary12PathTest::digits);
        due.sentence("up to the first digit 3", Boundary12PathTest::firstDigitThree);
        due.sentence("(path 3: the global itself; 3 * 4 + 1 = 13: its field 1.)", Boundary12PathTest::examples);
        due.sentence("0 nothing, 1 an int, 2 an object", Boundary12PathTest::sorts);
        due.sentence("g outside 0..3", Boundary12PathTest::globals);
        due.sentence("or path outside 0..65535: BAD", Boundary12PathTest::paths);
        due.sentence("the path has no digit 3 among its lowest 8: BAD", Boundary12PathTest::noDigitThree);
        due.sentence("on the way there is something that is no object: NO_OBJECT", Boundary12PathTest::noObject);
        due.sentence("Tested in this order", Boundary12PathTest::order);
        due.sentence("The int there, or the class of the object there; 0 if sort answers 0 or below", Boundary12PathTest::number);
        due.end();
    }

    private static void at(Due due, ManagedRuntime x, int g, int path, int sort, int number) {
        due.is("sort(" + g + ", " + path + ")", x.sort(g, path), sort);
        due.is("number(" + g + ", " + path + ")", x.number(g, path), number);
    }

    /** The path over the fields, in the order in which one goes: at most seven. */
    private static int path(int... fields) {
        int path = 3;
        for (int i = fields.length - 1; i >= 0; i--) {
            path = path * 4 + fields[i];
        }
        return path;
    }

    // Globals: an object of class 2, an int, nothing, an object of class 3. Fields of the first:
    // an int, the object of class 3, itself; of the other: the first, nothing, an int.
    private static ManagedRuntime web() {
        ManagedRuntime x = Program.of(Op.NEW, 2, Op.GIVE, 0, Op.PUSH, 1234, Op.GIVE, 1, Op.NEW, 3, Op.GIVE, 3,
            Op.TAKE, 0, Op.PUSH, -5, Op.PUT, 0, Op.TAKE, 0, Op.TAKE, 3, Op.PUT, 1, Op.TAKE, 0, Op.TAKE, 0, Op.PUT, 2,
            Op.TAKE, 3, Op.TAKE, 0, Op.PUT, 0, Op.TAKE, 3, Op.PUSH, MAX, Op.PUT, 2);
        if (x.run(0, 0) != ManagedRuntime.ENDED) {
            throw new IllegalStateException("the objects were not made");
        }
        return x;
    }

    private static void digits(Due due) {
        ManagedRuntime x = web();
        at(due, x, 0, path(0), 1, -5);
        at(due, x, 0, path(1), 2, 3);
        at(due, x, 0, path(2), 2, 2);
        at(due, x, 3, path(0), 2, 2);
        at(due, x, 3, path(1), 0, 0);
        at(due, x, 3, path(2), 1, MAX);
        // The two orders of two digits lead to different places.
        at(due, x, 0, path(1, 2), 1, MAX);
        at(due, x, 0, path(2, 1), 2, 3);
        at(due, x, 0, path(1, 0), 2, 2);
        at(due, x, 0, path(0, 1), NO_OBJECT, 0);
        // Seven fields are as many as fit before the digit 3.
        at(due, x, 0, path(2, 2, 2, 2, 2, 2, 0), 1, -5);
        at(due, x, 0, path(1, 0, 1, 0, 1, 0, 1), 2, 3);
        at(due, x, 0, path(2, 2, 2, 2, 2, 1, 2), 1, MAX);
        at(due, x, 3, path(0, 1, 0, 1, 0, 1, 1), 0, 0);
    }

    private static void firstDigitThree(Due due) {
        ManagedRuntime x = web();
        // Whatever stands above the first digit 3 is not looked at.
        for (int rest = 0; rest < 16; rest++) {
            at(due, x, 1, 3 + 4 * rest, 1, 1234);
            at(due, x, 0, path(1) + 16 * rest, 2, 3);
            at(due, x, 0, path(1, 2) + 64 * rest, 1, MAX);
        }
        at(due, x, 0, 65535, 2, 2);
        at(due, x, 0, 65535 - 3, 1, -5);
        at(due, x, 0, 65535 - 2, 2, 3);
        at(due, x, 0, 65535 - 1, 2, 2);
    }

    private static void examples(Due due) {
        ManagedRuntime x = web();
        int[] sorts = {2, 1, 0, 2};
        int[] numbers = {2, 1234, 0, 3};
        for (int g = 0; g < 4; g++) {
            at(due, x, g, 3, sorts[g], numbers[g]);
        }
        at(due, x, 0, 13, 2, 3);
        at(due, x, 3, 13, 0, 0);
        at(due, x, 1, 13, NO_OBJECT, 0);
    }

    private static void sorts(Due due) {
        ManagedRuntime x = new ManagedRuntime();
        int[][] makes = {{Op.EMPTY, 0, 0, 0}, {Op.PUSH, 0, 1, 0}, {Op.PUSH, MIN, 1, MIN}, {Op.PUSH, -1, 1, -1}, {Op.PUSH, -2, 1, -2},
            {Op.PUSH, MAX, 1, MAX}, {Op.NEW, 0, 2, 0}, {Op.NEW, 3, 2, 3}};
        for (int[] make : makes) {
            Program.put(x, 0, make[0], make[1], Op.DUP, 0, Op.GIVE, 0, Op.STORE, 2,
                Op.NEW, 1, Op.DUP, 0, Op.LOAD, 2, Op.PUT, 2, Op.GIVE, 3);
            due.is("run", x.run(0, 0), ManagedRuntime.ENDED);
            at(due, x, 0, 3, make[2], make[3]);
            at(due, x, 3, path(2), make[2], make[3]);
        }
    }

    private static void globals(Due due) {
        ManagedRuntime x = web();
        for (int g : new int[] {MIN, -2, -1, 4, 5, MAX}) {
            at(due, x, g, 3, BAD, 0);
            at(due, x, g, 13, BAD, 0);
            at(due, x, g, 65535, BAD, 0);
        }
        at(due, x, 0, 3, 2, 2);
        at(due, x, 3, 3, 2, 3);
    }

    private static void paths(Due due) {
        ManagedRuntime x = web();
        // All of these would lead to the global itself, or along its field 2, if only their lowest digits counted.
        for (int path : new int[] {MIN + 3, -65533, -13, -2, -1, 65536 + 3, 65536 + 14, 2 * 65536 + 3, MAX - 1, MAX}) {
            at(due, x, 0, path, BAD, 0);
        }
        at(due, x, 0, MIN, BAD, 0);
        at(due, x, 0, 65536, BAD, 0);
        at(due, x, 0, 65535, 2, 2);
        at(due, x, 0, 65534, 2, 2);
        at(due, x, 0, 3, 2, 2);
    }

    private static void noDigitThree(Due due) {
        ManagedRuntime x = web();
        for (int path : new int[] {0, 1, 2, 4, 6, 42, 10922, 16384, 32768, 43690, 43689, 2 * 16384 + 2 * 4096}) {
            at(due, x, 0, path, BAD, 0);
        }
        // The digit 3 as each of the eight, with the field 2 before it.
        for (int k = 0, twos = 0; k < 8; twos += 2 << 2 * k, k++) {
            at(due, x, 0, twos + (3 << 2 * k), 2, 2);
            at(due, x, 0, twos, BAD, 0);
        }
        at(due, x, 0, 49152 - 1, 2, 2);
    }

    private static void noObject(Due due) {
        ManagedRuntime x = web();
        for (int f = 0; f < 3; f++) {
            at(due, x, 1, path(f), NO_OBJECT, 0);
            at(due, x, 2, path(f), NO_OBJECT, 0);
            at(due, x, 0, path(0, f), NO_OBJECT, 0);
            at(due, x, 3, path(1, f), NO_OBJECT, 0);
        }
        // At the end of the way it may be no object, one field further it may not.
        at(due, x, 1, path(), 1, 1234);
        at(due, x, 2, path(), 0, 0);
        at(due, x, 0, path(0), 1, -5);
        at(due, x, 3, path(1), 0, 0);
        at(due, x, 0, path(2, 2, 2, 2, 2, 2, 0), 1, -5);
        at(due, x, 0, path(2, 2, 2, 2, 2, 0, 0), NO_OBJECT, 0);
        at(due, x, 0, path(1, 1, 2, 2, 2, 2, 2), NO_OBJECT, 0);
        at(due, x, 3, path(0, 2, 2, 2, 2, 1, 1), 0, 0);
        at(due, x, 2, path(0, 0, 0, 0, 0, 0, 0), NO_OBJECT, 0);
    }

    private static void order(Due due) {
        ManagedRuntime x = web();
        // Global 2 is nothing and field 0 of global 0 an int, so these ways have no object; but there is no digit 3.
        for (int path : new int[] {0, 4, 16384}) {
            at(due, x, 2, path, BAD, 0);
            at(due, x, 0, path, BAD, 0);
        }
        at(due, x, 2, 49152, NO_OBJECT, 0);
        at(due, x, 0, 49152, NO_OBJECT, 0);
        at(due, x, 2, 65536 + 12, BAD, 0);
        at(due, x, 2, 12, NO_OBJECT, 0);
        at(due, x, 4, 12, BAD, 0);
        at(due, x, 4, 0, BAD, 0);
    }

    private static void number(Due due) {
        ManagedRuntime x = web();
        due.is("an int", x.number(1, 3), 1234);
        due.is("an int below 0", x.number(0, path(0)), -5);
        due.is("the greatest int", x.number(3, path(2)), MAX);
        due.is("a class", x.number(0, 3), 2);
        due.is("a class", x.number(3, 3), 3);
        due.is("nothing", x.number(2, 3), 0);
        due.is("nothing in a field", x.number(3, path(1)), 0);
        due.is("BAD for the global", x.number(4, 3), 0);
        due.is("BAD for the path", x.number(0, -1), 0);
        due.is("BAD for the digits", x.number(0, 0), 0);
        due.is("NO_OBJECT", x.number(1, path(0)), 0);
    }
}

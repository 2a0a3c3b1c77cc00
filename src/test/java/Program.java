/** Puts instructions into an object: each is a pair of its number and its operand. */
final class Program {
    private Program() {
    }

    static ManagedRuntime of(int... pairs) {
        ManagedRuntime x = new ManagedRuntime();
        put(x, 0, pairs);
        return x;
    }

    static void put(ManagedRuntime x, int first, int... pairs) {
        for (int i = 0; i < pairs.length; i += 2) {
            if (!x.code(first + i / 2, pairs[i], pairs[i + 1])) {
                throw new IllegalStateException("instruction " + (first + i / 2) + " was refused");
            }
        }
    }

    /** Runs so that exactly so many instructions (2 or more) have worked when the first pair is due. */
    static int runAfter(ManagedRuntime x, int steps, int... pairs) {
        // Each round has 7 steps, the way out of the loop 2, and a JUMP to the next instruction 1.
        put(x, 0, Op.LOAD, 1, Op.ZERO, 7, Op.LOAD, 1, Op.PUSH, 1, Op.SUB, 0, Op.STORE, 1, Op.JUMP, 0);
        int next = 7;
        for (int k = (steps - 2) % 7; k > 0; k--) {
            put(x, next, Op.JUMP, next + 1);
            next++;
        }
        put(x, next, pairs);
        return x.run(0, (steps - 2) / 7);
    }

    /** Makes so many objects of class 0 that global 0 leads to them, each in field 0 of the next. */
    static void keep(ManagedRuntime x, int objects) {
        put(x, 54, Op.NEW, 0, Op.DUP, 0, Op.TAKE, 0, Op.PUT, 0, Op.GIVE, 0, Op.STOP, 0);
        for (int k = 0; k < objects; k++) {
            if (x.run(54, 0) != ManagedRuntime.ENDED) {
                throw new IllegalStateException("object " + k + " was not made");
            }
        }
    }
}

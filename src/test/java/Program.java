/** Puts instructions into an object: each is a pair of its number and its operand. */
final class Program {
    private Program() {
    }

    static ManagedRuntime of(int... pairs) {
        ManagedRuntime x = new ManagedRuntime();
        put(x, 0, pairs);
        return x;
    }

    static void put(ManagedRuntime x, int first, int... pairs) {
        for (int i = 0; i < pairs.length; i += 2) {
            if (!x.code(first + i / 2, pairs[i], pairs[i + 1])) {
                throw new IllegalStateException("instruction " + (first + i / 2) + " was refused");
            }
        }
    }
}

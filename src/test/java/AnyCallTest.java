/**
 * Rule 7 of LANGUAGE.md: no call throws or fails to end, for any arguments in any state. That holds
 * after the 512th call too, where the document leaves the answers free; so they are not compared,
 * and the endings are counted only to see that the calls come to all of them.
 */
public final class AnyCallTest {
    private static final int OBJECTS = 40;
    private static final int CALLS = 50000;
    private static final int ENDINGS = 8;
    private static final int[] EDGES = {
        Integer.MIN_VALUE, Integer.MIN_VALUE + 1, -65536, -61, -60, -5, -4, -3, -2, -1, 5, 6, 7, 9, 10, 11, 15, 16, 17,
        19, 20, 23, 24, 59, 60, 61, 299, 300, 301, 65534, 65535, 65536, Integer.MAX_VALUE - 1, Integer.MAX_VALUE,
    };

    private final int[] endings;
    private final ManagedRuntime x = new ManagedRuntime();
    private long state;

    private AnyCallTest(int number, int[] endings) {
        this.endings = endings;
        state = number * 0x9E3779B97F4A7C15L + 7;
    }

    public static void main(String[] args) {
        Due due = new Due();
        int[] endings = new int[ENDINGS];
        for (int i = 0; i < OBJECTS; i++) {
            AnyCallTest test = new AnyCallTest(i, endings);
            int calls = 0;
            try {
                while (calls < CALLS) {
                    test.call();
                    calls++;
                }
            } catch (RuntimeException e) {
                System.out.println("object " + i + ", call " + calls + ": " + e);
            }
            due.is("calls of object " + i + " that did not throw", calls, CALLS);
        }
        for (int e = 0; e < ENDINGS; e++) {
            System.out.println("ending " + e + ": " + endings[e] + " runs");
            due.yes("ending " + e + " is seen often", endings[e] >= 300);
        }
        due.end();
    }

    private int below(int bound) {
        state = state * 6364136223846793005L + 1442695040888963407L;
        return (int) ((state >>> 33) % bound);
    }

    /** Mostly a number that is not refused, so that states of all kinds come up. */
    private int upTo(int high) {
        int kind = below(20);
        if (kind == 0) {
            return EDGES[below(EDGES.length)];
        }
        return kind == 1 ? below(1 << 16) * below(1 << 16) : below(high + 1);
    }

    private void call() {
        switch (below(20)) {
            case 0: x.above(upTo(3), upTo(3) - 1); break;
            case 1: x.method(upTo(3), upTo(3), below(2) == 0 ? -1 : upTo(59)); break;
            case 2: x.givenSort(); x.given(); break;
            case 3: x.steps(); x.made(); break;
            case 4: x.printed(); x.output(upTo(40)); break;
            case 5: x.sort(upTo(3), upTo(65535)); break;
            case 6: x.number(upTo(3), upTo(65535)); break;
            case 7: x.needed(); break;
            case 8: x.clear(upTo(3)); break;
            case 9: x.level(upTo(2)); break;
            case 10: case 11: case 12: runFrom(upTo(59)); break;
            case 13: putLoop(); runFrom(0); break;
            default: x.code(upTo(59), upTo(23), upTo(below(2) == 0 ? 3 : 59)); break;
        }
    }

    private void runFrom(int start) {
        int ending = x.run(start, upTo(9));
        if (ending >= 0 && ending < ENDINGS) {
            endings[ending]++;
        }
    }

    /** Code by chance seldom fills the memory, calls or prints much; these do. */
    private void putLoop() {
        int g = below(4);
        switch (below(3)) {
            case 0: Program.put(x, 0, Op.NEW, below(4), Op.DUP, 0, Op.TAKE, g, Op.PUT, below(3), Op.GIVE, g, Op.JUMP, 0); break;
            case 1: Program.put(x, 0, Op.NEW, below(4), Op.LOAD, below(4), Op.CALL, below(4), Op.GIVE, g, Op.JUMP, below(60)); break;
            default: Program.put(x, 0, Op.PUSH, upTo(9), Op.OUT, 0, Op.JUMP, 0); break;
        }
    }
}

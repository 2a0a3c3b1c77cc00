/** The boundary cases of promise 16. */
public final class Boundary16LevelTest {
    private static final int[] LEVELS = {Integer.MIN_VALUE, -1, 0, 1, 2, 3, Integer.MAX_VALUE};

    public static void main(String[] args) {
        Due due = new Due();
        due.sentence("k outside 0..2: refused, answers false. Else true", Boundary16LevelTest::outside);
        due.sentence("It shows in no answer", Boundary16LevelTest::showsNowhere);
        due.end();
    }

    private static void outside(Due due) {
        ManagedRuntime x = new ManagedRuntime();
        for (int before = 0; before < 3; before++) {
            for (int k : LEVELS) {
                due.yes("level(" + before + ")", x.level(before));
                due.is("level(" + k + ")", x.level(k) ? 1 : 0, k >= 0 && k <= 2 ? 1 : 0);
            }
        }
    }

    // All levels, refused ones too, set before and between runs that come to the end of the memory.
    private static void showsNowhere(Due due) {
        for (int first : LEVELS) {
            for (int second : LEVELS) {
                ManagedRuntime x = Program.of(Op.NEW, 1, Op.POP, 0, Op.NEW, 2, Op.STORE, 2, Op.NEW, 3, Op.STORE, 3, Op.JUMP, 0);
                String what = "levels " + first + " and " + second;
                x.level(first);
                Program.keep(x, 13);
                x.level(second);
                due.is(what + ": 13 are kept", x.run(0, 0), ManagedRuntime.TIRED);
                due.is(what + ": made", x.made(), 129);
                due.is(what + ": needed", x.needed(), 13);
                Program.keep(x, 1);
                x.level(first);
                due.is(what + ": 14 are kept", x.run(0, 0), ManagedRuntime.MEMORY);
                due.is(what + ": steps", x.steps(), 7);
                due.is(what + ": made", x.made(), 3);
                Program.keep(x, 2);
                due.is(what + ": needed", x.needed(), 16);
                x.level(second);
                due.is(what + ": 16 are kept", x.run(0, 0), ManagedRuntime.MEMORY);
                due.is(what + ": made", x.made(), 0);
                due.is(what + ": the chain", x.sort(0, 49152), 2);
                due.is(what + ": its class", x.number(0, 49152), 0);
            }
        }
    }
}

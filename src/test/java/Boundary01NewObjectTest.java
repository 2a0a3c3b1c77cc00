/** The boundary cases of promise 1, and of how many calls an object is used for. */
public final class Boundary01NewObjectTest {
    public static void main(String[] args) {
        Due due = new Due();
        due.sentence("No class above any", Boundary01NewObjectTest::noClassAbove);
        due.sentence("no starts", Boundary01NewObjectTest::noStarts);
        due.sentence("all globals nothing", Boundary01NewObjectTest::globalsAreNothing);
        due.sentence("the level is 2", Boundary01NewObjectTest::levelIsTwo);
        due.sentence("An object is used for at most 512 calls after it has been made; what later calls answer is free", Boundary01NewObjectTest::manyCalls);
        due.end();
    }

    private static void noClassAbove(Due due) {
        for (int c = 0; c < 4; c++) {
            for (int n = 0; n < 4; n++) {
                ManagedRuntime x = Program.of(Op.NEW, c, Op.IS, n, Op.RETURN, 0);
                due.is("run", x.run(0, 0), ManagedRuntime.ENDED);
                due.is("class " + c + " is " + n, x.given(), c == n ? 1 : 0);
            }
        }
    }

    private static void noStarts(Due due) {
        for (int k = 0; k < 16; k++) {
            ManagedRuntime x = Program.of(Op.NEW, k / 4, Op.EMPTY, 0, Op.CALL, k % 4);
            due.is("class " + k / 4 + ", slot " + k % 4, x.run(0, 0), ManagedRuntime.MISSING);
            x.method(k / 4, k % 4, 30);
            due.is("with a start there", x.run(0, 0), ManagedRuntime.ENDED);
        }
    }

    private static void globalsAreNothing(Due due) {
        for (int g = 0; g < 4; g++) {
            ManagedRuntime x = Program.of(Op.TAKE, g, Op.EMPTY, 0, Op.SAME, 0, Op.RETURN, 0);
            due.is("sort of global " + g, x.sort(g, 3), 0);
            due.is("number of global " + g, x.number(g, 3), 0);
            due.is("field of global " + g, x.sort(g, 12), ManagedRuntime.NO_OBJECT);
            x.run(0, 0);
            due.is("TAKE " + g + " is nothing", x.given(), 1);
        }
        due.is("needed", new ManagedRuntime().needed(), 0);
    }

    // The level shows in no answer: a new object answers as one with level 2 does, and as any other.
    private static void levelIsTwo(Due due) {
        for (int level = -1; level < 3; level++) {
            ManagedRuntime x = new ManagedRuntime();
            due.is("level(" + level + ")", x.level(level) ? 1 : 0, level < 0 ? 0 : 1);
            Program.keep(x, 15);
            Program.put(x, 0, Op.NEW, 1, Op.POP, 0, Op.NEW, 2, Op.NEW, 3);
            due.is("a 17th object that is needed", x.run(0, 0), ManagedRuntime.MEMORY);
            due.is("steps", x.steps(), 3);
            due.is("made", x.made(), 2);
            due.is("needed", x.needed(), 15);
        }
    }

    private static void manyCalls(Due due) {
        // Each run makes 100 objects and lets all but one go.
        ManagedRuntime x = Program.of(Op.NEW, 0, Op.GIVE, 0, Op.JUMP, 0);
        int calls = 3;
        while (calls < 509) {
            due.is("call " + (calls + 1) + ", run", x.run(0, calls), ManagedRuntime.TIRED);
            due.is("call " + (calls + 2) + ", made", x.made(), 100);
            due.is("call " + (calls + 3) + ", needed", x.needed(), 1);
            calls += 3;
        }
        due.is("call 510", x.clear(0) ? 1 : 0, 1);
        due.is("call 511", x.run(59, 0), ManagedRuntime.ENDED);
        due.is("call 512", x.needed(), 0);
        // No answer is due any more, but there must be one.
        for (int k = 0; k < 1000; k++) {
            x.run(0, k);
            x.needed();
        }
    }
}

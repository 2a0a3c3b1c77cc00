/** Promise 1: no class above any, no starts, all globals nothing, all code STOP. */
public final class Promise01NewObjectTest {
    public static void main(String[] args) {
        Due due = new Due();
        answersBeforeAnyRun(due);
        everyInstructionIsStop(due);
        noClassIsAbove(due);
        noStarts(due);
        objectsAreApart(due);
        due.end();
    }

    private static void answersBeforeAnyRun(Due due) {
        ManagedRuntime x = new ManagedRuntime();
        due.is("givenSort", x.givenSort(), 0);
        due.is("given", x.given(), 0);
        due.is("steps", x.steps(), 0);
        due.is("made", x.made(), 0);
        due.is("printed", x.printed(), 0);
        due.is("output(0)", x.output(0), 0);
        due.is("needed", x.needed(), 0);
        for (int g = 0; g < 4; g++) {
            due.is("sort of global " + g, x.sort(g, 3), 0);
            due.is("number of global " + g, x.number(g, 3), 0);
        }
    }

    private static void everyInstructionIsStop(Due due) {
        ManagedRuntime x = new ManagedRuntime();
        for (int i = 0; i < 60; i++) {
            due.is("run at " + i, x.run(i, 7), ManagedRuntime.ENDED);
            due.is("steps at " + i, x.steps(), 1);
            due.is("givenSort at " + i, x.givenSort(), 0);
        }
    }

    private static void noClassIsAbove(Due due) {
        for (int c = 0; c < 4; c++) {
            for (int n = 0; n < 4; n++) {
                ManagedRuntime x = Program.of(Op.NEW, c, Op.IS, n, Op.RETURN, 0);
                x.run(0, 0);
                due.is("class " + c + " is " + n, x.given(), c == n ? 1 : 0);
            }
        }
    }

    private static void noStarts(Due due) {
        for (int c = 0; c < 4; c++) {
            for (int slot = 0; slot < 4; slot++) {
                ManagedRuntime x = Program.of(Op.NEW, c, Op.EMPTY, 0, Op.CALL, slot);
                due.is("call " + c + " " + slot, x.run(0, 0), ManagedRuntime.MISSING);
            }
        }
    }

    private static void objectsAreApart(Due due) {
        ManagedRuntime x = Program.of(Op.NEW, 1, Op.GIVE, 0, Op.PUSH, 5, Op.OUT, 0);
        ManagedRuntime y = new ManagedRuntime();
        x.run(0, 0);
        due.is("needed of x", x.needed(), 1);
        due.is("needed of y", y.needed(), 0);
        due.is("printed of y", y.printed(), 0);
        due.is("run of y", y.run(0, 0), ManagedRuntime.ENDED);
        due.is("steps of y", y.steps(), 1);
    }
}

/** Promise 16: which levels there are; that they show in no answer is also ModelTest's matter. */
public final class Promise16LevelTest {
    public static void main(String[] args) {
        Due due = new Due();
        ManagedRuntime x = new ManagedRuntime();
        for (int k : new int[] {0, 1, 2}) {
            due.yes("level(" + k + ")", x.level(k));
        }
        for (int k : new int[] {-1, 3, 4, Integer.MIN_VALUE, Integer.MAX_VALUE}) {
            due.no("level(" + k + ")", x.level(k));
        }
        for (int first = 0; first < 3; first++) {
            for (int second = 0; second < 3; second++) {
                levelShowsNowhere(due, first, second);
            }
        }
        due.end();
    }

    private static void levelShowsNowhere(Due due, int first, int second) {
        ManagedRuntime x = Program.of(Op.NEW, 0, Op.DUP, 0, Op.TAKE, 0, Op.PUT, 1, Op.GIVE, 0, Op.NEW, 1, Op.POP, 0, Op.JUMP, 0);
        x.level(first);
        due.is("run", x.run(0, 0), ManagedRuntime.MEMORY);
        due.is("made", x.made(), 31);
        due.is("steps", x.steps(), 15 * 8 + 5);
        due.is("needed", x.needed(), 16);
        x.level(second);
        due.is("needed", x.needed(), 16);
        due.is("run", x.run(0, 0), ManagedRuntime.MEMORY);
        due.is("steps", x.steps(), 0);
        x.clear(0);
        due.is("run", x.run(0, 0), ManagedRuntime.MEMORY);
        due.is("made", x.made(), 31);
        due.is("field", x.number(0, 13), 0);
        due.is("its sort", x.sort(0, 13), 2);
    }
}

/** Promise 2: which instructions code takes and which it refuses. */
public final class Promise02CodeTest {
    private static final int MIN = Integer.MIN_VALUE;
    private static final int MAX = Integer.MAX_VALUE;

    public static void main(String[] args) {
        Due due = new Due();
        ManagedRuntime x = new ManagedRuntime();
        for (int i : new int[] {0, 1, 30, 58, 59}) {
            due.yes("code at " + i, x.code(i, Op.PUSH, 1));
        }
        for (int i : new int[] {-1, 60, 61, MIN, MAX}) {
            due.no("code at " + i, x.code(i, Op.PUSH, 1));
        }
        for (int op : new int[] {-1, 24, 25, MIN, MAX}) {
            due.no("code of op " + op, x.code(0, op, 0));
        }
        operands(due);
        refusedChangesNothing(due);
        everyPlaceIsItsOwn(due);
        due.end();
    }

    private static void operands(Due due) {
        ManagedRuntime x = new ManagedRuntime();
        for (int op = 0; op < 24; op++) {
            for (int n : new int[] {MIN, -60, -2, -1, 0, 1, 2, 3, 4, 5, 59, 60, MAX}) {
                boolean want = n >= 0 && n <= most(op) || most(op) == MAX;
                due.is("code of op " + op + " with " + n, x.code(0, op, n) ? 1 : 0, want ? 1 : 0);
            }
        }
    }

    private static int most(int op) {
        switch (op) {
            case Op.LOAD: case Op.STORE: case Op.NEW: case Op.IS: case Op.CALL: case Op.TAKE: case Op.GIVE:
                return 3;
            case Op.GET: case Op.PUT:
                return 2;
            default:
                return MAX;
        }
    }

    private static void refusedChangesNothing(Due due) {
        ManagedRuntime x = Program.of(Op.PUSH, 8, Op.RETURN, 0);
        due.no("op 24", x.code(0, 24, 0));
        due.no("LOAD 4", x.code(0, Op.LOAD, 4));
        due.no("GET 3", x.code(1, Op.GET, 3));
        due.no("place 60", x.code(60, Op.PUSH, 1));
        due.is("run", x.run(0, 0), ManagedRuntime.ENDED);
        due.is("given", x.given(), 8);
    }

    private static void everyPlaceIsItsOwn(Due due) {
        ManagedRuntime x = new ManagedRuntime();
        for (int i = 0; i < 60; i += 2) {
            Program.put(x, i, Op.PUSH, 1000 - i, Op.RETURN, 0);
        }
        for (int i = 0; i < 60; i += 2) {
            x.run(i, 0);
            due.is("given at " + i, x.given(), 1000 - i);
        }
    }
}

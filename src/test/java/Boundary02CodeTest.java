/** The boundary cases of promise 2. */
public final class Boundary02CodeTest {
    private static final int MIN = Integer.MIN_VALUE;
    private static final int MAX = Integer.MAX_VALUE;
    private static final int[] FOUR = {Op.LOAD, Op.STORE, Op.NEW, Op.IS, Op.CALL, Op.TAKE, Op.GIVE};
    private static final int[] THREE = {Op.GET, Op.PUT};
    private static final int[] ANY = {Op.STOP, Op.PUSH, Op.EMPTY, Op.POP, Op.DUP, Op.SWAP, Op.ADD, Op.SUB, Op.MUL, Op.LESS,
        Op.SAME, Op.JUMP, Op.ZERO, Op.RETURN, Op.OUT};

    public static void main(String[] args) {
        Due due = new Due();
        due.sentence("Sets instruction i", Boundary02CodeTest::sets);
        due.sentence("i outside 0..59", Boundary02CodeTest::numbers);
        due.sentence("or op outside 0..23: refused, answers false", Boundary02CodeTest::ops);
        due.sentence("so it does if n is not from 0 to 3 in LOAD, STORE, NEW, IS, CALL, TAKE and GIVE", Boundary02CodeTest::operandsToThree);
        due.sentence("or not from 0 to 2 in GET and PUT", Boundary02CodeTest::operandsToTwo);
        due.sentence("Else true", Boundary02CodeTest::elseTrue);
        due.end();
    }

    private static void codeIsAsBefore(Due due, String what, ManagedRuntime x) {
        due.is(what + ": run", x.run(0, 0), ManagedRuntime.ENDED);
        due.is(what + ": instruction 0 is as before", x.given(), 90);
        due.is(what + ": run", x.run(58, 0), ManagedRuntime.ENDED);
        due.is(what + ": instruction 58 is as before", x.given(), 91);
    }

    // What a refused call must leave as it is: two instructions at each end of the code.
    private static ManagedRuntime ownCode() {
        ManagedRuntime x = Program.of(Op.PUSH, 90, Op.RETURN, 0);
        Program.put(x, 58, Op.PUSH, 91, Op.RETURN, 0);
        return x;
    }

    private static void sets(Due due) {
        for (int i : new int[] {0, 1, 30, 58, 59}) {
            ManagedRuntime x = new ManagedRuntime();
            due.yes("code at " + i, x.code(i, Op.POP, 0));
            for (int at = 0; at < 60; at++) {
                due.is("POP at " + i + ", run at " + at, x.run(at, 0), at == i ? ManagedRuntime.STACK : ManagedRuntime.ENDED);
            }
            due.yes("again", x.code(i, Op.STOP, 0));
            due.is("STOP again at " + i, x.run(i, 0), ManagedRuntime.ENDED);
        }
    }

    private static void numbers(Due due) {
        ManagedRuntime x = ownCode();
        for (int i : new int[] {MIN, -60, -1, 60, 61, 118, MAX}) {
            due.no("code at " + i, x.code(i, Op.STOP, 0));
            codeIsAsBefore(due, "code at " + i, x);
        }
        due.yes("code at 0", x.code(0, Op.PUSH, 90));
        due.yes("code at 59", x.code(59, Op.RETURN, 0));
        codeIsAsBefore(due, "the same again", x);
    }

    private static void ops(Due due) {
        ManagedRuntime x = ownCode();
        for (int op : new int[] {MIN, -1, 24, 25, 256, MAX}) {
            for (int i : new int[] {0, 58}) {
                due.no("op " + op, x.code(i, op, 0));
            }
            codeIsAsBefore(due, "op " + op, x);
        }
        for (int op : new int[] {0, 1, 22, 23}) {
            due.yes("op " + op, x.code(30, op, 0));
        }
    }

    private static void operandsToThree(Due due) {
        for (int op : FOUR) {
            operands(due, op, 3);
        }
    }

    private static void operandsToTwo(Due due) {
        for (int op : THREE) {
            operands(due, op, 2);
        }
    }

    private static void operands(Due due, int op, int most) {
        ManagedRuntime x = ownCode();
        for (int n : new int[] {MIN, -2, -1, most + 1, most + 2, 60, MAX}) {
            due.no("op " + op + " with " + n, x.code(0, op, n));
            due.no("op " + op + " with " + n, x.code(58, op, n));
            codeIsAsBefore(due, "op " + op + " with " + n, x);
        }
        for (int n = 0; n <= most; n++) {
            due.yes("op " + op + " with " + n, x.code(30, op, n));
        }
    }

    private static void elseTrue(Due due) {
        for (int op : ANY) {
            ManagedRuntime x = new ManagedRuntime();
            for (int n : new int[] {MIN, -60, -2, -1, 0, 1, 2, 3, 4, 5, 59, 60, MAX}) {
                due.yes("op " + op + " with " + n + " at 0", x.code(0, op, n));
                due.yes("op " + op + " with " + n + " at 59", x.code(59, op, n));
            }
        }
        due.is("instructions that are told apart", ANY.length + FOUR.length + THREE.length, 24);
    }
}

/** Promise 4: which starts method takes, and where CALL then goes. */
public final class Promise04MethodTest {
    public static void main(String[] args) {
        Due due = new Due();
        int[] edges = {Integer.MIN_VALUE, -2, -1, 0, 3, 4, Integer.MAX_VALUE};
        int[] starts = {Integer.MIN_VALUE, -2, -1, 0, 59, 60, Integer.MAX_VALUE};
        for (int c : edges) {
            for (int slot : edges) {
                for (int start : starts) {
                    ManagedRuntime x = new ManagedRuntime();
                    boolean want = c >= 0 && c <= 3 && slot >= 0 && slot <= 3 && start >= -1 && start <= 59;
                    due.is("method(" + c + ", " + slot + ", " + start + ")", x.method(c, slot, start) ? 1 : 0, want ? 1 : 0);
                }
            }
        }
        everySlotIsItsOwn(due);
        firstClassUpwards(due);
        startsAtTheEdges(due);
        due.end();
    }

    private static void everySlotIsItsOwn(Due due) {
        ManagedRuntime x = new ManagedRuntime();
        for (int k = 0; k < 16; k++) {
            Program.put(x, 10 + 2 * k, Op.PUSH, 100 + k, Op.RETURN, 0);
            due.yes("method " + k, x.method(k / 4, k % 4, 10 + 2 * k));
        }
        for (int k = 0; k < 16; k++) {
            due.is("call " + k, call(x, k / 4, k % 4), ManagedRuntime.ENDED);
            due.is("given by " + k, x.given(), 100 + k);
        }
    }

    private static void firstClassUpwards(Due due) {
        ManagedRuntime x = new ManagedRuntime();
        for (int c = 0; c < 4; c++) {
            Program.put(x, 20 + 2 * c, Op.PUSH, c, Op.RETURN, 0);
        }
        x.above(3, 1);
        x.above(1, 0);
        due.is("none", call(x, 3, 2), ManagedRuntime.MISSING);
        x.method(2, 2, 24);
        due.is("class 2 is not above class 3", call(x, 3, 2), ManagedRuntime.MISSING);
        x.method(0, 2, 20);
        due.is("two steps up", call(x, 3, 2), ManagedRuntime.ENDED);
        due.is("class 0's", x.given(), 0);
        due.is("its givenSort", x.givenSort(), 1);
        x.method(1, 2, 22);
        call(x, 3, 2);
        due.is("class 1's", x.given(), 1);
        x.method(3, 2, 26);
        call(x, 3, 2);
        due.is("class 3's", x.given(), 3);
        due.no("refused", x.method(3, 2, 60));
        call(x, 3, 2);
        due.is("class 3's after a refusal", x.given(), 3);
        x.method(3, 2, -1);
        call(x, 3, 2);
        due.is("class 1's again", x.given(), 1);
        call(x, 0, 2);
        due.is("from class 0", x.given(), 0);
        due.is("another slot", call(x, 3, 1), ManagedRuntime.MISSING);
        x.above(1, -1);
        x.method(1, 2, -1);
        due.is("the way up is cut", call(x, 3, 2), ManagedRuntime.MISSING);
        x.above(3, 2);
        x.above(2, 1);
        x.above(1, 0);
        x.method(2, 2, -1);
        call(x, 3, 2);
        due.is("three steps up", x.given(), 0);
        due.is("it was a value", x.givenSort(), 1);
    }

    private static void startsAtTheEdges(Due due) {
        ManagedRuntime x = new ManagedRuntime();
        Program.put(x, 0, Op.LOAD, 1, Op.RETURN, 0);
        Program.put(x, 10, Op.NEW, 0, Op.PUSH, 6, Op.CALL, 0, Op.RETURN, 0);
        x.method(0, 0, 0);
        due.is("start 0", x.run(10, 9), ManagedRuntime.ENDED);
        due.is("given from start 0", x.given(), 6);
        x.method(0, 0, 59);
        due.is("start 59 is STOP", x.run(10, 9), ManagedRuntime.ENDED);
        due.is("gave nothing", x.givenSort(), 0);
        due.is("steps", x.steps(), 4);
    }

    private static int call(ManagedRuntime x, int c, int slot) {
        Program.put(x, 0, Op.NEW, c, Op.EMPTY, 0, Op.CALL, slot, Op.RETURN, 0);
        return x.run(0, 0);
    }
}

/** Promise 3: which classes above takes, and what IS then tells. */
public final class Promise03AboveTest {
    public static void main(String[] args) {
        Due due = new Due();
        int[] edges = {Integer.MIN_VALUE, -2, -1, 0, 1, 2, 3, 4, 5, Integer.MAX_VALUE};
        for (int c : edges) {
            for (int a : edges) {
                ManagedRuntime x = new ManagedRuntime();
                boolean want = c >= 0 && c <= 3 && a >= -1 && a < c;
                due.is("above(" + c + ", " + a + ")", x.above(c, a) ? 1 : 0, want ? 1 : 0);
            }
        }
        chains(due);
        due.end();
    }

    private static void chains(Due due) {
        ManagedRuntime x = new ManagedRuntime();
        x.above(3, 2);
        x.above(2, 1);
        x.above(1, 0);
        for (int c = 0; c < 4; c++) {
            for (int n = 0; n < 4; n++) {
                due.is("in the chain " + c + " is " + n, is(x, c, n), n <= c ? 1 : 0);
            }
        }
        due.no("refused", x.above(2, 3));
        due.is("3 is 0 after a refusal", is(x, 3, 0), 1);
        due.yes("above(2, 0)", x.above(2, 0));
        due.is("3 is 1 no more", is(x, 3, 1), 0);
        due.is("3 is still 0", is(x, 3, 0), 1);
        due.yes("above(2, -1)", x.above(2, -1));
        due.is("3 is 0 no more", is(x, 3, 0), 0);
        due.is("3 is 2", is(x, 3, 2), 1);
        due.is("1 is 0", is(x, 1, 0), 1);
        due.is("0 is not 1", is(x, 0, 1), 0);
    }

    private static int is(ManagedRuntime x, int c, int n) {
        Program.put(x, 0, Op.NEW, c, Op.IS, n, Op.RETURN, 0);
        x.run(0, 0);
        return x.given();
    }
}

/** Promise 15: clear. */
public final class Promise15ClearTest {
    public static void main(String[] args) {
        Due due = new Due();
        for (int g : new int[] {-1, 4, Integer.MIN_VALUE, Integer.MAX_VALUE}) {
            due.no("clear(" + g + ")", new ManagedRuntime().clear(g));
        }
        for (int g = 0; g < 4; g++) {
            ManagedRuntime x = Program.of(Op.NEW, 0, Op.GIVE, 0, Op.PUSH, 1, Op.GIVE, 1, Op.NEW, 2, Op.GIVE, 2, Op.NEW, 3, Op.GIVE, 3);
            due.yes("clear of nothing", x.clear(g));
            x.run(0, 0);
            due.no("refused", x.clear(4));
            due.is("needed after a refusal", x.needed(), 3);
            due.yes("clear(" + g + ")", x.clear(g));
            for (int other = 0; other < 4; other++) {
                int sort = other == g ? 0 : other == 1 ? 1 : 2;
                due.is("sort of " + other, x.sort(other, 3), sort);
                due.is("number of " + other, x.number(other, 3), sort == 0 ? 0 : other);
            }
            due.is("needed", x.needed(), g == 1 ? 3 : 2);
        }
        due.end();
    }
}

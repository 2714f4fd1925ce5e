/** Promise 9: the counts after the latest run. */
public final class Promise09CountTest {
    public static void main(String[] args) {
        Desk desk = new Desk();
        Checks.due("before any run", desk.count(1), 0);
        // Object 1: variable 0, variable 2, field 0 and 1 of object 2, and weak in object 2.
        Checks.lay(desk, 0, Checks.OWNED,
                Checks.in(Checks.NEW, 0, 0, 0),
                Checks.in(Checks.NEW, 1, 0, 0),
                Checks.in(Checks.PUT, 1, 0, 0),
                Checks.in(Checks.PUT, 1, 0, 1),
                Checks.in(Checks.PUT, 1, 0, 2),
                Checks.in(Checks.COPY, 2, 0, 0),
                Checks.in(Checks.NEW, 3, 0, 0),
                Checks.in(Checks.NONE, 3, 0, 0),
                Checks.in(Checks.CALL, 4, 0, 1),
                Checks.in(Checks.PUT, 1, 2, 0));
        Checks.lay(desk, 1, Checks.LENT, Checks.in(Checks.GET, 1, 0, 0), Checks.in(Checks.ADD, 1, 0, 1));
        Checks.due("plain", desk.run(Checks.PLAIN, 0), ArcDesk.FAILED);
        // It fails inside the call, whose variable 0 counts in a PLAIN run, and has a loan in a SHORT one.
        Checks.due("plain: count(1)", desk.count(1), 5);
        Checks.due("plain: count(2)", desk.count(2), 1);
        Checks.due("plain: count(3), ended", desk.count(3), 0);
        Checks.due("short", desk.run(Checks.SHORT, 0), ArcDesk.FAILED);
        Checks.due("short: count(1)", desk.count(1), 4);
        Checks.due("short: count(2)", desk.count(2), 1);
        for (int n : new int[] {-1, 0, 4, 25, 300, 301, Integer.MIN_VALUE, Integer.MAX_VALUE}) {
            Checks.due("count(" + n + ")", desk.count(n), 0);
        }
        // What is given keeps its count; of an earlier run nothing is left.
        Checks.lay(desk, 2, Checks.OWNED, Checks.in(Checks.NEW, 0, 0, 0), Checks.in(Checks.GIVE, 0, 0, 0));
        for (boolean isShort : new boolean[] {Checks.PLAIN, Checks.SHORT}) {
            desk.run(isShort, 2);
            Checks.due("given: count(1)", desk.count(1), 1);
            Checks.due("given: count(2)", desk.count(2), 0);
        }
        Checks.finish();
    }
}

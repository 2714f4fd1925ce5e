/** Promise 7: the ints that the latest run put out. */
public final class Promise07OutTest {
    public static void main(String[] args) {
        Desk desk = new Desk();
        Checks.due("before any run", desk.out(0), 0);
        Checks.lay(desk, 0, Checks.OWNED,
                Checks.in(Checks.OUT, 0, 0, 0),
                Checks.in(Checks.NEW, 0, 0, -9),
                Checks.in(Checks.OUT, 0, 0, 0),
                Checks.in(Checks.ONLY, 0, 0, 0),
                Checks.in(Checks.COPY, 1, 0, 0),
                Checks.in(Checks.ONLY, 0, 0, 0),
                Checks.in(Checks.ADD, 1, 0, 20),
                Checks.in(Checks.OUT, 0, 0, 0),
                Checks.in(Checks.CALL, 2, 0, 1),
                Checks.in(Checks.OUT, 1, 0, 0));
        Checks.lay(desk, 1, Checks.OWNED, Checks.in(Checks.ADD, 0, 0, 1), Checks.in(Checks.OUT, 0, 0, 0));
        for (boolean isShort : new boolean[] {Checks.PLAIN, Checks.SHORT}) {
            desk.run(isShort, 0);
            // Both variables have the same object, and so does the method that is called.
            Checks.dueOuts("six", desk, 0, -9, 1, 0, 11, 12, 12);
            for (int k : new int[] {-1, 7, 300, Integer.MIN_VALUE, Integer.MAX_VALUE}) {
                Checks.due("out(" + k + ")", desk.out(k), 0);
            }
        }
        Checks.due("a run that fails", desk.run(Checks.PLAIN, 1), ArcDesk.FAILED);
        Checks.dueOuts("what an earlier run put out is gone", desk);
        Checks.due("not even the second", desk.out(1), 0);

        // A run of 300 instructions can put out 300 ints at most; this one, all but the GOs.
        Checks.lay(desk, 2, Checks.OWNED, Checks.in(Checks.NEW, 0, 0, 5), Checks.in(Checks.OUT, 0, 0, 0),
                Checks.in(Checks.OUT, 0, 0, 0), Checks.in(Checks.OUT, 0, 0, 0), Checks.in(Checks.GO, 0, 0, 1));
        desk.run(Checks.SHORT, 2);
        Checks.due("long: state(0)", desk.state(0), 225);
        Checks.due("long: out(224)", desk.out(224), 5);
        Checks.due("long: out(225)", desk.out(225), 0);
        Checks.finish();
    }
}

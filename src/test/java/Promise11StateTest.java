/** Promise 11: the numbers of the latest run. */
public final class Promise11StateTest {
    public static void main(String[] args) {
        afterEachEnd();
        countsOnlyReferences();
        refusesOthers();
        Checks.finish();
    }

    private static int[] in(int op, int a, int b, int c) {
        return Checks.in(op, a, b, c);
    }

    private static void afterEachEnd() {
        Desk desk = new Desk();
        Checks.dueState("nothing was run", desk, 0, 0, 0, 0, 0, 0, 0, 0, 0, -1);
        // Method 0 gives an object; method 1 fails in a call of method 2; method 3 goes on for ever.
        Checks.lay(desk, 0, Checks.OWNED, in(Checks.NEW, 1, 0, 2), in(Checks.NEW, 2, 0, 3), in(Checks.OUT, 2, 0, 0),
                in(Checks.GIVE, 2, 0, 0));
        Checks.lay(desk, 1, Checks.OWNED, in(Checks.NEW, 1, 0, 2), in(Checks.CALL, 2, 1, 2));
        Checks.lay(desk, 2, Checks.OWNED, in(Checks.OUT, 0, 0, 0), in(Checks.OUT, 0, 0, 0), in(Checks.ADD, 3, 0, 0));
        Checks.lay(desk, 3, Checks.OWNED, in(Checks.NEW, 4, 0, 2), in(Checks.GO, 0, 0, 0));
        desk.run(Checks.PLAIN, 0);
        Checks.dueState("plain, done", desk, 1, 1, 1, 2, 4, 1, 2, 2, 0, -1);
        desk.run(Checks.PLAIN, 1);
        Checks.dueState("plain, failed", desk, 2, 0, 1, 0, 5, 1, 1, 0, 2, 34);
        desk.run(Checks.PLAIN, 3);
        Checks.dueState("plain, long", desk, 0, 149, 0, 149, 300, 1, 150, 0, 1, 48);
        desk.run(Checks.SHORT, 0);
        Checks.dueState("short, done", desk, 1, 1, 0, 1, 4, 1, 2, 2, 0, -1);
        desk.run(Checks.SHORT, 1);
        Checks.dueState("short, failed", desk, 2, 1, 0, 1, 5, 0, 1, 0, 2, 34);
        desk.run(Checks.SHORT, 3);
        Checks.dueState("short, long", desk, 0, 150, 0, 150, 300, 0, 150, 0, 1, 48);
        // Asking changes nothing.
        desk.set(0, 0, 1);
        desk.plan(0, 0);
        Checks.dueState("asked again", desk, 0, 150, 0, 150, 300, 0, 150, 0, 1, 48);
    }

    /** Neither nothing, nor what is made, nor what is put into a weak field is counted. */
    private static void countsOnlyReferences() {
        Desk desk = new Desk();
        Checks.lay(desk, 0, Checks.OWNED, in(Checks.COPY, 1, 0, 0), in(Checks.NEW, 2, 0, 0), in(Checks.PUT, 2, 1, 0),
                in(Checks.PUT, 2, 2, 2), in(Checks.GET, 3, 2, 0), in(Checks.CALL, 4, 1, 1), in(Checks.NONE, 5, 0, 0),
                in(Checks.GIVE, 1, 0, 0));
        Checks.lay(desk, 1, Checks.OWNED, in(Checks.GIVE, 0, 0, 0));
        desk.run(Checks.PLAIN, 0);
        Checks.dueState("nothing", desk, 0, 1, 0, 1, 9, 0, 1, 0, 0, -1);
        desk.run(Checks.SHORT, 0);
        Checks.dueState("nothing", desk, 0, 1, 0, 1, 9, 0, 1, 0, 0, -1);
        // OWN counts what the fields hold, but not what it makes, and nothing of the weak field.
        Checks.lay(desk, 0, Checks.OWNED, in(Checks.NEW, 0, 0, 0), in(Checks.NEW, 1, 0, 0), in(Checks.PUT, 0, 1, 1),
                in(Checks.PUT, 0, 1, 2), in(Checks.COPY, 2, 0, 0), in(Checks.OWN, 2, 0, 0));
        desk.run(Checks.PLAIN, 0);
        Checks.dueState("own", desk, 0, 3, 3, 6, 6, 0, 3, 0, 0, -1);
    }

    private static void refusesOthers() {
        Desk desk = new Desk();
        for (int bad : new int[] {-1, 10, 11, Integer.MIN_VALUE, Integer.MAX_VALUE}) {
            Checks.due("state(" + bad + ")", desk.state(bad), ArcDesk.BAD);
        }
    }
}

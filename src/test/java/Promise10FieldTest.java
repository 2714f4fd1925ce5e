/** Promise 10: what the fields hold after the latest run. */
public final class Promise10FieldTest {
    public static void main(String[] args) {
        holdsAndLoses();
        weakFieldsForget();
        nothingInWhatEnded();
        wrongInputs();
        Checks.finish();
    }

    private static int[] in(int op, int a, int b, int c) {
        return Checks.in(op, a, b, c);
    }

    private static void dueFields(String when, Desk desk, int n, int... want) {
        for (int f = 0; f < 3; f++) {
            Checks.due(when + ": field(" + n + ", " + f + ")", desk.field(n, f), want[f]);
        }
    }

    private static void holdsAndLoses() {
        Desk desk = new Desk();
        Checks.due("before any run", desk.field(1, 0), 0);
        Checks.lay(desk, 0, Checks.OWNED, in(Checks.NEW, 0, 0, 0), in(Checks.NEW, 1, 0, 0), in(Checks.NEW, 2, 0, 0),
                in(Checks.PUT, 0, 1, 0), in(Checks.PUT, 0, 2, 1), in(Checks.PUT, 0, 2, 2), in(Checks.PUT, 1, 0, 2),
                in(Checks.PUT, 2, 1, 0), in(Checks.PUT, 2, 1, 1), in(Checks.NONE, 1, 0, 0), in(Checks.PUT, 2, 1, 1),
                in(Checks.GIVE, 0, 0, 0));
        for (boolean isShort : new boolean[] {Checks.PLAIN, Checks.SHORT}) {
            Checks.due("run", desk.run(isShort, 0), ArcDesk.DONE);
            dueFields("holds", desk, 1, 2, 3, 3);
            dueFields("weak back", desk, 2, 0, 0, 1);
            // A PUT of nothing takes out what was there.
            dueFields("loses", desk, 3, 2, 0, 0);
            Checks.due("count(2)", desk.count(2), 2);
            Checks.due("count(1)", desk.count(1), 1);
        }
    }

    private static void weakFieldsForget() {
        Desk desk = new Desk();
        Checks.lay(desk, 0, Checks.OWNED, in(Checks.NEW, 0, 0, 0), in(Checks.NEW, 1, 0, 0), in(Checks.NEW, 2, 0, 0),
                in(Checks.PUT, 0, 2, 0), in(Checks.PUT, 0, 1, 2), in(Checks.PUT, 2, 1, 2), in(Checks.NONE, 1, 0, 0),
                in(Checks.GET, 3, 0, 2), in(Checks.OUT, 3, 0, 0), in(Checks.IFNONE, 3, 0, 11), in(Checks.ADD, 5, 0, 0),
                in(Checks.GIVE, 0, 0, 0));
        for (boolean isShort : new boolean[] {Checks.PLAIN, Checks.SHORT}) {
            Checks.due("run", desk.run(isShort, 0), ArcDesk.DONE);
            Checks.dueEnds("weak", desk, 2);
            dueFields("weak", desk, 1, 3, 0, 0);
            dueFields("weak", desk, 3, 0, 0, 0);
            dueFields("not alive", desk, 2, 0, 0, 0);
        }
        // What a weak field holds can be got while it is alive, and is counted then.
        Checks.lay(desk, 0, Checks.OWNED, in(Checks.NEW, 0, 0, 0), in(Checks.NEW, 1, 0, 7), in(Checks.PUT, 0, 1, 2),
                in(Checks.GET, 2, 0, 2), in(Checks.OUT, 1, 0, 0), in(Checks.NONE, 1, 0, 0), in(Checks.OUT, 2, 0, 0),
                in(Checks.PUT, 0, 2, 1), in(Checks.GIVE, 0, 0, 0));
        for (boolean isShort : new boolean[] {Checks.PLAIN, Checks.SHORT}) {
            Checks.due("run", desk.run(isShort, 0), ArcDesk.DONE);
            Checks.dueOuts("weak, alive", desk, 7, 7);
            dueFields("weak, alive", desk, 1, 0, 2, 2);
            Checks.due("weak, alive: counted", desk.state(2), isShort ? 1 : 3);
        }
        // A PUT into the weak field hands nothing over, so in SHORT runs it ends before the GET.
        Checks.lay(desk, 0, Checks.OWNED, in(Checks.NEW, 0, 0, 0), in(Checks.NEW, 1, 0, 7), in(Checks.PUT, 0, 1, 2),
                in(Checks.GET, 2, 0, 2), in(Checks.OUT, 2, 0, 0), in(Checks.GIVE, 0, 0, 0));
        desk.run(Checks.PLAIN, 0);
        Checks.dueOuts("weak, plain", desk, 7);
        dueFields("weak, plain: gone when the variables are", desk, 1, 0, 0, 0);
        desk.run(Checks.SHORT, 0);
        Checks.dueOuts("weak, short", desk, 0);
    }

    private static void nothingInWhatEnded() {
        Desk desk = new Desk();
        Checks.lay(desk, 0, Checks.OWNED, in(Checks.NEW, 0, 0, 0), in(Checks.NEW, 1, 0, 0), in(Checks.PUT, 0, 1, 0),
                in(Checks.PUT, 0, 1, 1), in(Checks.PUT, 0, 1, 2), in(Checks.NONE, 0, 0, 0), in(Checks.GIVE, 1, 0, 0));
        for (boolean isShort : new boolean[] {Checks.PLAIN, Checks.SHORT}) {
            Checks.due("run", desk.run(isShort, 0), ArcDesk.DONE);
            dueFields("what ended", desk, 1, 0, 0, 0);
            Checks.due("what it held: count(2)", desk.count(2), 1);
        }
    }

    private static void wrongInputs() {
        Desk desk = new Desk();
        Checks.lay(desk, 0, Checks.OWNED, in(Checks.NEW, 0, 0, 0), in(Checks.NEW, 1, 0, 0), in(Checks.PUT, 0, 1, 0),
                in(Checks.PUT, 0, 1, 1), in(Checks.PUT, 0, 1, 2), in(Checks.PUT, 1, 1, 0), in(Checks.GIVE, 0, 0, 0));
        desk.run(Checks.PLAIN, 0);
        dueFields("holds", desk, 1, 2, 2, 2);
        for (int bad : new int[] {-1, 3, 4, Integer.MIN_VALUE, Integer.MAX_VALUE}) {
            Checks.due("field(1, " + bad + ")", desk.field(1, bad), 0);
            Checks.due("field(" + bad + ", 0)", desk.field(bad, 0), 0);
        }
        Checks.due("field(0, 3)", desk.field(0, 3), 0);
        Checks.due("field(2, -3)", desk.field(2, -3), 0);
        Checks.due("field(301, 0)", desk.field(301, 0), 0);
    }
}

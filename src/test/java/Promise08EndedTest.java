/** Promise 8: which objects ended in the latest run, and in which order. */
public final class Promise08EndedTest {
    public static void main(String[] args) {
        fieldZeroWithAllBeforeFieldOne();
        variablesInOrder();
        ringsStay();
        sharedEndOnce();
        latestRunAlone();
        Checks.finish();
    }

    private static int[] in(int op, int a, int b, int c) {
        return Checks.in(op, a, b, c);
    }

    /** 1 has 2 and 3, 2 has 4 and 5, 3 has 6: they end 1, 2, 4, 5, 3, 6. */
    private static void fieldZeroWithAllBeforeFieldOne() {
        Desk desk = new Desk();
        Checks.lay(desk, 0, Checks.OWNED,
                in(Checks.NEW, 0, 0, 0), in(Checks.NEW, 1, 0, 0), in(Checks.NEW, 2, 0, 0), in(Checks.NEW, 3, 0, 0),
                in(Checks.NEW, 4, 0, 0), in(Checks.NEW, 5, 0, 0), in(Checks.PUT, 2, 5, 0), in(Checks.PUT, 1, 3, 0),
                in(Checks.PUT, 1, 4, 1), in(Checks.PUT, 0, 1, 0), in(Checks.PUT, 0, 2, 1),
                in(Checks.CALL, 1, 0, 1));
        // The five others are let go by the caller later, so in PLAIN runs only the order of counts tells.
        Checks.lay(desk, 1, Checks.OWNED, in(Checks.OUT, 0, 0, 0), in(Checks.END, 0, 0, 0));
        desk.run(Checks.SHORT, 0);
        Checks.dueEnds("short tree", desk, 1, 2, 4, 5, 3, 6);
        Checks.dueState("short tree", desk, 1, 6, 0, 6, 14, 0, 6, 0, 0, -1);
        desk.run(Checks.PLAIN, 0);
        // Variable 1 gets nothing from the call; the rest goes with variable 0, as far as it is not shared.
        Checks.dueEnds("plain tree", desk, 1, 2, 3, 4, 5, 6);
    }

    private static void variablesInOrder() {
        Desk desk = new Desk();
        Checks.lay(desk, 3, Checks.OWNED, in(Checks.NEW, 5, 0, 0), in(Checks.NEW, 3, 0, 0), in(Checks.NEW, 4, 0, 0),
                in(Checks.NEW, 0, 0, 0));
        desk.run(Checks.PLAIN, 3);
        Checks.dueEnds("at the end", desk, 4, 2, 3, 1);
        desk.run(Checks.SHORT, 3);
        Checks.dueEnds("as soon as can be", desk, 1, 2, 3, 4);
    }

    private static void ringsStay() {
        Desk desk = new Desk();
        Checks.lay(desk, 0, Checks.OWNED, in(Checks.NEW, 0, 0, 0), in(Checks.NEW, 1, 0, 0), in(Checks.PUT, 0, 1, 0),
                in(Checks.PUT, 1, 0, 1), in(Checks.NEW, 2, 0, 0), in(Checks.PUT, 2, 2, 2));
        for (boolean isShort : new boolean[] {Checks.PLAIN, Checks.SHORT}) {
            desk.run(isShort, 0);
            // A ring of counted fields stays; one through the weak field does not.
            Checks.dueEnds("rings", desk, 3);
            Checks.due("rings: alive", desk.state(5), 2);
            Checks.due("rings: count(1)", desk.count(1), 1);
            Checks.due("rings: count(2)", desk.count(2), 1);
        }
    }

    private static void sharedEndOnce() {
        Desk desk = new Desk();
        Checks.lay(desk, 0, Checks.OWNED, in(Checks.NEW, 0, 0, 0), in(Checks.NEW, 1, 0, 0), in(Checks.PUT, 0, 1, 0),
                in(Checks.PUT, 0, 1, 1), in(Checks.NONE, 1, 0, 0), in(Checks.NONE, 0, 0, 0));
        desk.run(Checks.PLAIN, 0);
        Checks.dueEnds("twice in one", desk, 1, 2);
        Checks.due("twice in one: lowered", desk.state(3), 4);
    }

    private static void latestRunAlone() {
        Desk desk = new Desk();
        Checks.due("before any run", desk.ended(0), 0);
        Checks.lay(desk, 0, Checks.OWNED, in(Checks.NEW, 0, 0, 0), in(Checks.NEW, 0, 0, 0));
        Checks.lay(desk, 1, Checks.OWNED, in(Checks.NEW, 0, 0, 0), in(Checks.GIVE, 0, 0, 0));
        desk.run(Checks.PLAIN, 0);
        Checks.dueEnds("two", desk, 1, 2);
        for (int k : new int[] {-1, 2, 301, Integer.MIN_VALUE, Integer.MAX_VALUE}) {
            Checks.due("ended(" + k + ")", desk.ended(k), 0);
        }
        desk.run(Checks.PLAIN, 1);
        Checks.dueEnds("none", desk);
        Checks.due("not even the second", desk.ended(1), 0);
    }
}

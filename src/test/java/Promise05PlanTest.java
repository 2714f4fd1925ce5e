/** Promise 5: which GETs are loans, and which instructions hand over. */
public final class Promise05PlanTest {
    private static final int[] STOP = {Checks.END, 0, 0, 0};

    public static void main(String[] args) {
        handsOverWhatIsNotNeeded();
        neverOrAlwaysWithAAsB();
        callsByHowTheyTake();
        othersDoNot();
        loansOverHarmlessOps();
        noLoanOverOthers();
        noLoanWhereAVariableGoes();
        noLoanOfWeakOrSame();
        loansOnAllWays();
        wrongInputs();
        Checks.finish();
    }

    private static int planOf(int i, int[]... instructions) {
        Desk desk = new Desk();
        desk.method(3, Checks.LENT);
        Checks.lay(desk, 0, Checks.OWNED, instructions);
        return desk.plan(0, i);
    }

    private static void handsOverWhatIsNotNeeded() {
        int[] out = {Checks.OUT, 2, 0, 0};
        int[] write = {Checks.NEW, 2, 0, 0};
        for (int op : new int[] {Checks.COPY, Checks.PUT, Checks.CALL}) {
            int[] it = {op, 1, 2, 0};
            Checks.due("op " + op + ", last", planOf(0, it), 2);
            Checks.due("op " + op + ", not read", planOf(0, it, STOP), 2);
            Checks.due("op " + op + ", read later", planOf(0, it, out), 0);
            Checks.due("op " + op + ", written first", planOf(0, it, write, out), 2);
            Checks.due("op " + op + ", read on one way", planOf(0, it, new int[] {Checks.IFNONE, 1, 0, 3}, STOP, out), 0);
            Checks.due("op " + op + ", read when the loop comes round", planOf(0, it, new int[] {Checks.GO, 0, 0, 0}), 0);
            // No way leads there, but what is needed there is known all the same.
            Checks.due("op " + op + ", behind the end", planOf(1, STOP, it), 2);
        }
        Checks.due("a field that counts", planOf(0, Checks.in(Checks.PUT, 1, 2, 1)), 2);
        Checks.due("the weak field", planOf(0, Checks.in(Checks.PUT, 1, 2, 2)), 0);
    }

    private static void neverOrAlwaysWithAAsB() {
        int[] out = {Checks.OUT, 1, 0, 0};
        Checks.due("copy to itself", planOf(0, Checks.in(Checks.COPY, 1, 1, 0)), 0);
        Checks.due("put into itself", planOf(0, Checks.in(Checks.PUT, 1, 1, 0)), 0);
        Checks.due("call for itself", planOf(0, Checks.in(Checks.CALL, 1, 1, 0)), 2);
        Checks.due("call for itself, needed behind", planOf(0, Checks.in(Checks.CALL, 1, 1, 0), out), 2);
    }

    private static void callsByHowTheyTake() {
        Checks.due("lent", planOf(0, Checks.in(Checks.CALL, 1, 2, 3)), 0);
        Checks.due("lent, for itself", planOf(0, Checks.in(Checks.CALL, 1, 1, 3)), 0);
        Checks.due("owned", planOf(0, Checks.in(Checks.CALL, 1, 2, 2)), 2);
    }

    private static void othersDoNot() {
        for (int op : new int[] {0, 2, 5, 6, 7, 8, 9, 10, 12, 13}) {
            Checks.due("op " + op, planOf(0, Checks.in(op, 1, 2, 0), STOP), 0);
        }
    }

    private static void loansOverHarmlessOps() {
        int[] get = {Checks.GET, 1, 0, 0};
        int[] keepZero = {Checks.OUT, 0, 0, 0};
        Checks.due("a never needed", planOf(0, get), 1);
        Checks.due("a never needed, though others follow", planOf(0, get, Checks.in(Checks.COPY, 2, 0, 0)), 1);
        for (int op : new int[] {Checks.OUT, Checks.ADD, Checks.ONLY}) {
            Checks.due("over op " + op, planOf(0, get, Checks.in(op, 1, 0, 1), keepZero), 1);
        }
        Checks.due("field 1", planOf(0, Checks.in(Checks.GET, 1, 0, 1), Checks.in(Checks.OUT, 1, 0, 0), keepZero), 1);
        Checks.due("over IFNONE and GO", planOf(0, get, Checks.in(Checks.IFNONE, 1, 0, 3),
                Checks.in(Checks.GO, 0, 0, 3), Checks.in(Checks.OUT, 1, 0, 0), keepZero), 1);
        Checks.due("anything goes when a is not needed any more", planOf(0, get, Checks.in(Checks.OUT, 1, 0, 0),
                Checks.in(Checks.PUT, 0, 0, 0), Checks.in(Checks.NEW, 1, 0, 0), Checks.in(Checks.GIVE, 1, 0, 0)), 1);
        Checks.due("round a loop", planOf(0, get, Checks.in(Checks.OUT, 1, 0, 0), Checks.in(Checks.OUT, 0, 0, 0),
                Checks.in(Checks.GO, 0, 0, 0)), 1);
    }

    private static void noLoanOverOthers() {
        int[] get = {Checks.GET, 1, 0, 0};
        int[] both = {Checks.PUT, 0, 1, 2};
        int[][] others = {
            {Checks.NEW, 2, 0, 0}, {Checks.COPY, 2, 0, 0}, {Checks.NONE, 2, 0, 0}, {Checks.GET, 2, 0, 0},
            {Checks.PUT, 0, 0, 0}, {Checks.OWN, 0, 0, 0}, {Checks.CALL, 2, 0, 3},
        };
        int[] one = {Checks.OUT, 1, 0, 0};
        int[] zero = {Checks.OUT, 0, 0, 0};
        for (int[] it : others) {
            // Variables 0 and 1 stay needed, so the op alone decides.
            Checks.due("over op " + it[0], planOf(0, get, it, one, zero), 0);
        }
        Checks.due("read by PUT", planOf(0, get, both), 0);
        Checks.due("given", planOf(0, get, Checks.in(Checks.GIVE, 1, 0, 0)), 0);
        Checks.due("copied", planOf(0, get, Checks.in(Checks.COPY, 2, 1, 0), Checks.in(Checks.OUT, 0, 0, 0)), 0);
        Checks.due("called with", planOf(0, get, Checks.in(Checks.CALL, 2, 1, 3), Checks.in(Checks.OUT, 0, 0, 0)), 0);
        Checks.due("far behind a jump", planOf(0, get, Checks.in(Checks.GO, 0, 0, 3), STOP,
                Checks.in(Checks.ONLY, 1, 0, 0), Checks.in(Checks.IFNONE, 0, 0, 7), Checks.in(Checks.NEW, 3, 0, 0),
                Checks.in(Checks.OUT, 1, 0, 0), Checks.in(Checks.OUT, 0, 0, 0)), 0);
    }

    private static void noLoanWhereAVariableGoes() {
        int[] get = {Checks.GET, 1, 0, 0};
        Checks.due("b is not needed any more", planOf(0, get, Checks.in(Checks.OUT, 1, 0, 0)), 0);
        Checks.due("b goes before a does", planOf(0, get, Checks.in(Checks.OUT, 0, 0, 0),
                Checks.in(Checks.OUT, 1, 0, 0)), 0);
        Checks.due("both go at once", planOf(0, get, Checks.in(Checks.OUT, 1, 0, 0),
                Checks.in(Checks.OUT, 0, 0, 0)), 1);
        Checks.due("another one goes before", planOf(0, get, Checks.in(Checks.OUT, 5, 0, 0),
                Checks.in(Checks.OUT, 1, 0, 0), Checks.in(Checks.OUT, 0, 0, 0)), 0);
        Checks.due("another one goes behind", planOf(0, get, Checks.in(Checks.OUT, 1, 0, 0),
                Checks.in(Checks.OUT, 5, 0, 0), Checks.in(Checks.OUT, 0, 0, 0)), 1);
    }

    private static void noLoanOfWeakOrSame() {
        Checks.due("weak", planOf(0, Checks.in(Checks.GET, 1, 0, 2), STOP), 0);
        Checks.due("a as b", planOf(0, Checks.in(Checks.GET, 1, 1, 0), STOP), 0);
        Checks.due("else", planOf(0, Checks.in(Checks.GET, 1, 0, 0), STOP), 1);
    }

    private static void loansOnAllWays() {
        int[] get = {Checks.GET, 1, 0, 0};
        int[] zero = {Checks.OUT, 0, 0, 0};
        Checks.due("one way breaks it", planOf(0, get, Checks.in(Checks.IFNONE, 2, 0, 4), Checks.in(Checks.OUT, 1, 0, 0),
                Checks.in(Checks.GO, 0, 0, 6), Checks.in(Checks.NEW, 3, 0, 0), Checks.in(Checks.OUT, 1, 0, 0), zero), 0);
        // Variable 2 is needed in front of the GET, and goes on the way behind the IFNONE while a is needed.
        Checks.due("a variable goes on one way", planOf(0, get, Checks.in(Checks.IFNONE, 2, 0, 3),
                Checks.in(Checks.OUT, 1, 0, 0), zero), 0);
        Checks.due("a variable goes with a", planOf(0, get, Checks.in(Checks.IFNONE, 1, 0, 2), zero), 1);
        // The way back: instruction 1 is found only through 3.
        Checks.due("a jump back", planOf(2, Checks.in(Checks.GO, 0, 0, 2), Checks.in(Checks.COPY, 3, 1, 0), get,
                Checks.in(Checks.IFNONE, 0, 0, 1), zero), 0);
        Checks.due("a jump back to the first", planOf(2, Checks.in(Checks.COPY, 3, 1, 0), Checks.in(Checks.NONE, 1, 0, 0),
                get, Checks.in(Checks.IFNONE, 0, 0, 0), zero), 0);
    }

    private static void wrongInputs() {
        Desk desk = new Desk();
        Checks.lay(desk, 0, Checks.OWNED, STOP);
        for (int bad : new int[] {-1, 4, Integer.MIN_VALUE, Integer.MAX_VALUE}) {
            Checks.due("plan(" + bad + ", 0)", desk.plan(bad, 0), ArcDesk.BAD);
            Checks.due("plan(0, " + bad + ")", desk.plan(0, bad), ArcDesk.BAD);
        }
        Checks.due("there", desk.plan(0, 0), 0);
        Checks.due("behind the last", desk.plan(0, 1), ArcDesk.BAD);
        Checks.due("in an empty method", desk.plan(1, 0), ArcDesk.BAD);
    }
}

/** Promise 6: what runs do, PLAIN and SHORT, and how they end. */
public final class Promise06RunTest {
    private static final int DONE = ArcDesk.DONE, FAILED = ArcDesk.FAILED, LONG = ArcDesk.LONG;

    public static void main(String[] args) {
        refusesOtherMethods();
        failsWithoutInstructions();
        countsBeforeItLetsGo();
        owns();
        onlyTellsLoansAndHandovers();
        callsWithAAsB();
        callsFromALoan();
        letsGoWhatIsNotNeeded();
        goesOnAtJumps();
        endsBehindTheLast();
        endsAtOnce();
        failsAndChangesNothing();
        failsAtTheTwentyFifth();
        failsAtTheSeventhCall();
        isLongAtTheThreeHundredFirst();
        isLongWhereItWouldGoOn();
        beginsAnew();
        numbersWrap();
        Checks.finish();
    }

    private static int[] in(int op, int a, int b, int c) {
        return Checks.in(op, a, b, c);
    }

    private static Desk with(int[]... instructions) {
        Desk desk = new Desk();
        Checks.lay(desk, 0, Checks.OWNED, instructions);
        return desk;
    }

    private static void dueRun(String what, Desk desk, boolean isShort, int want) {
        Checks.due(what + ": run " + (isShort ? "short" : "plain"), desk.run(isShort, 0), want);
    }

    private static void refusesOtherMethods() {
        Desk desk = with(in(Checks.NEW, 0, 0, 4), in(Checks.OUT, 0, 0, 0), in(Checks.GIVE, 0, 0, 0));
        dueRun("before", desk, Checks.SHORT, DONE);
        for (int bad : new int[] {-1, 4, Integer.MIN_VALUE, Integer.MAX_VALUE}) {
            Checks.due("run " + bad, desk.run(Checks.PLAIN, bad), ArcDesk.BAD);
            Checks.due("run " + bad, desk.run(Checks.SHORT, bad), ArcDesk.BAD);
        }
        Checks.dueState("nothing changed", desk, 1, 0, 0, 0, 3, 1, 1, 1, 0, -1);
        Checks.due("out(0)", desk.out(0), 4);
        Checks.due("count(1)", desk.count(1), 1);
    }

    private static void failsWithoutInstructions() {
        Desk desk = with(in(Checks.NEW, 0, 0, 4), in(Checks.OUT, 0, 0, 0), in(Checks.GIVE, 0, 0, 0));
        for (int m = 1; m < 4; m++) {
            desk.run(Checks.PLAIN, 0);
            Checks.due("plain", desk.run(Checks.PLAIN, m), FAILED);
            Checks.dueState("method " + m, desk, 0, 0, 0, 0, 0, 0, 0, 0, 1, 16 * m);
            desk.run(Checks.SHORT, 0);
            Checks.due("short", desk.run(Checks.SHORT, m), FAILED);
            Checks.dueState("method " + m, desk, 0, 0, 0, 0, 0, 0, 0, 0, 1, 16 * m);
            Checks.due("out(0)", desk.out(0), 0);
            Checks.due("count(1)", desk.count(1), 0);
        }
    }

    private static void countsBeforeItLetsGo() {
        Desk copy = with(in(Checks.NEW, 0, 0, 5), in(Checks.COPY, 0, 0, 0), in(Checks.OUT, 0, 0, 0));
        dueRun("copy to itself", copy, Checks.PLAIN, DONE);
        Checks.dueState("copy to itself", copy, 1, 1, 1, 2, 3, 0, 1, 0, 0, -1);
        Checks.due("copy to itself: out", copy.out(0), 5);
        dueRun("copy to itself", copy, Checks.SHORT, DONE);
        Checks.dueState("copy to itself", copy, 1, 1, 1, 2, 3, 0, 1, 0, 0, -1);

        Desk get = with(in(Checks.NEW, 0, 0, 1), in(Checks.NEW, 1, 0, 2), in(Checks.PUT, 0, 1, 0),
                in(Checks.NONE, 1, 0, 0), in(Checks.GET, 0, 0, 0), in(Checks.OUT, 0, 0, 0), in(Checks.GIVE, 0, 0, 0));
        dueRun("get from itself", get, Checks.PLAIN, DONE);
        Checks.dueEnds("get from itself", get, 1);
        Checks.dueState("get from itself", get, 1, 1, 3, 4, 7, 1, 2, 2, 0, -1);
        dueRun("get from itself", get, Checks.SHORT, DONE);
        Checks.dueEnds("get from itself", get, 1);
        Checks.dueOuts("get from itself", get, 2);
        Checks.dueState("get from itself", get, 1, 1, 1, 2, 7, 1, 2, 2, 0, -1);

        Desk put = with(in(Checks.NEW, 0, 0, 1), in(Checks.NEW, 1, 0, 2), in(Checks.PUT, 0, 1, 1),
                in(Checks.GET, 2, 0, 1), in(Checks.NONE, 1, 0, 0), in(Checks.PUT, 0, 2, 1), in(Checks.GIVE, 0, 0, 0));
        for (boolean isShort : new boolean[] {Checks.PLAIN, Checks.SHORT}) {
            dueRun("put what is there", put, isShort, DONE);
            Checks.dueEnds("put what is there", put);
            Checks.due("field(1, 1)", put.field(1, 1), 2);
            Checks.due("count(2)", put.count(2), 1);
        }
    }

    private static void owns() {
        Desk desk = with(in(Checks.NEW, 0, 0, 7), in(Checks.NEW, 1, 0, 8), in(Checks.PUT, 0, 1, 0),
                in(Checks.PUT, 0, 1, 1), in(Checks.PUT, 0, 1, 2), in(Checks.COPY, 2, 0, 0), in(Checks.OWN, 2, 0, 0),
                in(Checks.ADD, 2, 0, 1), in(Checks.OUT, 0, 0, 0), in(Checks.OUT, 2, 0, 0), in(Checks.ONLY, 2, 0, 0),
                in(Checks.ONLY, 0, 0, 0), in(Checks.GIVE, 2, 0, 0));
        dueRun("own", desk, Checks.PLAIN, DONE);
        Checks.dueOuts("own", desk, 7, 8, 1, 1);
        Checks.dueState("own", desk, 4, 1, 6, 6, 13, 2, 3, 3, 0, -1);
        Checks.due("own: count(2)", desk.count(2), 2);
        Checks.due("own: count(3)", desk.count(3), 1);
        for (int f = 0; f < 3; f++) {
            Checks.due("own: field(3, " + f + ")", desk.field(3, f), 2);
        }
        dueRun("own", desk, Checks.SHORT, DONE);
        // Variable 1 lives up to the weak PUT, so its references there are counted; GIVE hands over.
        Checks.dueOuts("own", desk, 7, 8, 1, 1);
        Checks.dueState("own", desk, 4, 1, 5, 5, 13, 2, 3, 3, 0, -1);

        Desk only = with(in(Checks.OWN, 0, 0, 0), in(Checks.NEW, 0, 0, 7), in(Checks.OWN, 0, 0, 0),
                in(Checks.OUT, 0, 0, 0));
        dueRun("own of what is not shared", only, Checks.PLAIN, DONE);
        Checks.dueState("own of what is not shared", only, 1, 1, 0, 1, 4, 0, 1, 0, 0, -1);
    }

    private static void onlyTellsLoansAndHandovers() {
        Desk desk = with(in(Checks.NEW, 0, 0, 7), in(Checks.ONLY, 0, 0, 0), in(Checks.CALL, 1, 0, 1),
                in(Checks.CALL, 1, 0, 2), in(Checks.ONLY, 5, 0, 0));
        Checks.lay(desk, 1, Checks.LENT, in(Checks.ONLY, 0, 0, 0));
        Checks.lay(desk, 2, Checks.OWNED, in(Checks.ONLY, 0, 0, 0));
        dueRun("only", desk, Checks.PLAIN, DONE);
        Checks.dueOuts("only", desk, 1, 0, 0, 0);
        dueRun("only", desk, Checks.SHORT, DONE);
        Checks.dueOuts("only", desk, 1, 0, 1, 0);
        Checks.dueState("only", desk, 4, 1, 0, 1, 7, 0, 1, 0, 0, -1);

        Desk loan = with(in(Checks.NEW, 0, 0, 7), in(Checks.CALL, 1, 0, 1), in(Checks.OUT, 0, 0, 0),
                in(Checks.OUT, 1, 0, 0));
        Checks.lay(loan, 1, Checks.LENT, in(Checks.OWN, 0, 0, 0), in(Checks.ADD, 0, 0, 5), in(Checks.GIVE, 0, 0, 0));
        dueRun("own of a loan", loan, Checks.SHORT, DONE);
        Checks.dueOuts("own of a loan", loan, 7, 12);
        Checks.dueEnds("own of a loan", loan, 1, 2);
        Checks.dueState("own of a loan", loan, 2, 2, 0, 2, 7, 0, 2, 0, 0, -1);

        Desk field = with(in(Checks.NEW, 0, 0, 1), in(Checks.NEW, 1, 0, 2), in(Checks.PUT, 0, 1, 0),
                in(Checks.GET, 1, 0, 0), in(Checks.ONLY, 1, 0, 0), in(Checks.ADD, 1, 0, 9), in(Checks.OUT, 1, 0, 0),
                in(Checks.OUT, 0, 0, 0));
        dueRun("only of a lent field", field, Checks.SHORT, DONE);
        Checks.dueOuts("only of a lent field", field, 0, 11, 1);
        Checks.dueState("only of a lent field", field, 3, 2, 0, 2, 8, 0, 2, 0, 0, -1);
    }

    private static void callsWithAAsB() {
        Desk desk = with(in(Checks.NEW, 0, 0, 4), in(Checks.CALL, 0, 0, 1), in(Checks.OUT, 0, 0, 0));
        Checks.lay(desk, 1, Checks.OWNED, in(Checks.ADD, 0, 0, 1), in(Checks.GIVE, 0, 0, 0));
        dueRun("call for itself", desk, Checks.PLAIN, DONE);
        Checks.dueOuts("call for itself", desk, 5);
        Checks.dueState("call for itself", desk, 1, 1, 2, 3, 5, 0, 1, 0, 0, -1);
        dueRun("call for itself", desk, Checks.SHORT, DONE);
        Checks.dueOuts("call for itself", desk, 5);
        Checks.dueState("call for itself", desk, 1, 1, 0, 1, 5, 0, 1, 0, 0, -1);
        Checks.lay(desk, 1, Checks.LENT, in(Checks.NEW, 1, 0, 9), in(Checks.GIVE, 1, 0, 0));
        dueRun("lent, for itself", desk, Checks.SHORT, DONE);
        Checks.dueOuts("lent, for itself", desk, 9);
        Checks.dueEnds("lent, for itself", desk, 1, 2);
        Checks.dueState("lent, for itself", desk, 1, 2, 0, 2, 5, 0, 2, 0, 0, -1);
    }

    /** What is on loan is never handed over, though the plan says so for what is not. */
    private static void callsFromALoan() {
        Desk desk = with(in(Checks.NEW, 0, 0, 4), in(Checks.CALL, 1, 0, 1), in(Checks.OUT, 0, 0, 0));
        Checks.lay(desk, 1, Checks.LENT, in(Checks.CALL, 0, 0, 2), in(Checks.OUT, 0, 0, 0));
        Checks.lay(desk, 2, Checks.OWNED, in(Checks.ONLY, 0, 0, 0));
        Checks.due("plan", desk.plan(1, 0), 2);
        dueRun("call from a loan", desk, Checks.SHORT, DONE);
        Checks.dueOuts("call from a loan", desk, 0, 0, 4);
        Checks.dueState("call from a loan", desk, 3, 1, 1, 2, 6, 0, 1, 0, 0, -1);
        Checks.lay(desk, 1, Checks.LENT, in(Checks.NEW, 1, 0, 6), in(Checks.PUT, 1, 0, 0), in(Checks.GIVE, 1, 0, 0));
        dueRun("put of a loan", desk, Checks.SHORT, DONE);
        Checks.dueEnds("put of a loan", desk, 2, 1);
        Checks.dueState("put of a loan", desk, 1, 2, 1, 3, 6, 0, 2, 0, 0, -1);
        Checks.lay(desk, 1, Checks.LENT, in(Checks.COPY, 1, 0, 0), in(Checks.GIVE, 1, 0, 0));
        dueRun("copy of a loan", desk, Checks.SHORT, DONE);
        Checks.dueState("copy of a loan", desk, 1, 1, 1, 2, 5, 0, 1, 0, 0, -1);
        Checks.lay(desk, 1, Checks.LENT, in(Checks.COPY, 0, 0, 0), in(Checks.GIVE, 0, 0, 0));
        dueRun("copy of a loan to itself", desk, Checks.SHORT, DONE);
        Checks.dueState("copy of a loan to itself", desk, 1, 1, 1, 2, 5, 0, 1, 0, 0, -1);
    }

    private static void letsGoWhatIsNotNeeded() {
        Desk desk = with(in(Checks.NEW, 3, 0, 1), in(Checks.NEW, 2, 0, 2), in(Checks.OUT, 3, 0, 0),
                in(Checks.OUT, 2, 0, 0), in(Checks.NEW, 3, 0, 3), in(Checks.NEW, 2, 0, 4), in(Checks.PUT, 4, 3, 0));
        dueRun("order", desk, Checks.PLAIN, FAILED);
        Checks.dueEnds("order", desk, 1, 2);
        dueRun("order", desk, Checks.SHORT, FAILED);
        // Object 1 goes behind instruction 2, object 2 behind 3, object 4 in front of 6.
        Checks.dueEnds("order", desk, 1, 2, 4);
        Checks.lay(desk, 0, Checks.OWNED, in(Checks.NEW, 5, 0, 1), in(Checks.NEW, 0, 0, 2), in(Checks.PUT, 5, 0, 2),
                in(Checks.NEW, 1, 0, 3), in(Checks.END, 0, 0, 0));
        dueRun("in order of variables", desk, Checks.SHORT, DONE);
        Checks.dueEnds("in order of variables", desk, 2, 1, 3);
        dueRun("in order of variables", desk, Checks.PLAIN, DONE);
        Checks.dueEnds("in order of variables", desk, 2, 3, 1);
        // What a method is called with and does not need goes before its first instruction.
        Checks.lay(desk, 0, Checks.OWNED, in(Checks.NEW, 0, 0, 1), in(Checks.CALL, 1, 0, 1));
        Checks.lay(desk, 1, Checks.OWNED, in(Checks.NEW, 1, 0, 2), in(Checks.ADD, 2, 0, 0));
        dueRun("before the first", desk, Checks.SHORT, FAILED);
        Checks.dueEnds("before the first", desk, 1, 2);
    }

    private static void goesOnAtJumps() {
        Desk desk = with(in(Checks.NEW, 0, 0, 1), in(Checks.IFNONE, 1, 0, 3), in(Checks.OUT, 1, 0, 0),
                in(Checks.IFNONE, 0, 0, 5), in(Checks.OUT, 0, 0, 0), in(Checks.GO, 0, 0, 7), in(Checks.OUT, 0, 0, 0),
                in(Checks.OUT, 2, 0, 0));
        for (boolean isShort : new boolean[] {Checks.PLAIN, Checks.SHORT}) {
            dueRun("jumps", desk, isShort, DONE);
            Checks.dueOuts("jumps", desk, 1, 0);
            Checks.due("jumps: begun", desk.state(4), 6);
        }
    }

    private static void endsBehindTheLast() {
        for (boolean isShort : new boolean[] {Checks.PLAIN, Checks.SHORT}) {
            Desk desk = with(in(Checks.CALL, 1, 0, 1), in(Checks.GO, 0, 0, 15), in(Checks.OUT, 0, 0, 0));
            Checks.lay(desk, 1, Checks.OWNED, in(Checks.IFNONE, 0, 0, 9), in(Checks.ADD, 0, 0, 1));
            dueRun("behind the last", desk, isShort, DONE);
            Checks.dueState("behind the last", desk, 0, 0, 0, 0, 3, 0, 0, 0, 0, -1);
        }
    }

    private static void endsAtOnce() {
        // What stands behind an END or a GIVE is not done.
        Desk end = with(in(Checks.NEW, 0, 0, 1), in(Checks.END, 0, 0, 0), in(Checks.OUT, 0, 0, 0));
        Desk give = with(in(Checks.NEW, 0, 0, 1), in(Checks.GIVE, 0, 0, 0), in(Checks.OUT, 0, 0, 0));
        // Six methods are behind their last instruction at once: a list of four is gone through.
        int[] link = in(Checks.PUT, 1, 0, 0);
        int[] made = in(Checks.NEW, 1, 0, 0);
        int[] next = in(Checks.COPY, 0, 1, 0);
        Desk six = with(in(Checks.NEW, 0, 0, 0), made, link, next, made, link, next, made, link, next,
                in(Checks.CALL, 1, 0, 1));
        Checks.lay(six, 1, Checks.OWNED, in(Checks.IFNONE, 0, 0, 3), in(Checks.GET, 0, 0, 0), in(Checks.CALL, 1, 0, 1));
        for (boolean isShort : new boolean[] {Checks.PLAIN, Checks.SHORT}) {
            dueRun("end", end, isShort, DONE);
            Checks.dueState("end", end, 0, 1, 0, 1, 2, 0, 1, 0, 0, -1);
            dueRun("give", give, isShort, DONE);
            Checks.due("give: begun", give.state(4), 2);
            dueRun("six at once", six, isShort, DONE);
            Checks.due("six at once: begun", six.state(4), 24);
            Checks.due("six at once: made", six.state(6), 4);
            Checks.due("six at once: ended", six.state(1), 4);
        }
    }

    private static void failsAndChangesNothing() {
        int[][] failing = {in(Checks.GET, 0, 5, 0), in(Checks.PUT, 5, 0, 0), in(Checks.ADD, 5, 0, 1),
            in(Checks.CALL, 1, 0, 3)};
        for (int[] it : failing) {
            Desk desk = with(in(Checks.NEW, 0, 0, 4), in(Checks.OUT, 0, 0, 0), it, in(Checks.OUT, 0, 0, 0));
            dueRun("op " + it[0] + " fails", desk, Checks.PLAIN, FAILED);
            Checks.dueState("op " + it[0] + " fails", desk, 1, 0, 0, 0, 3, 1, 1, 0, 1, 2);
            Checks.due("op " + it[0] + ": count(1)", desk.count(1), 1);
        }
        Desk call = with(in(Checks.NEW, 0, 0, 4), in(Checks.CALL, 1, 0, 3));
        Checks.due("it would hand over", call.plan(0, 1), 2);
        dueRun("call of an empty method", call, Checks.SHORT, FAILED);
        Checks.dueState("call of an empty method", call, 0, 0, 0, 0, 2, 1, 1, 0, 1, 1);
        Checks.due("call of an empty method: count(1)", call.count(1), 1);
        // It fails inside a call, at instruction 1 of method 2.
        Desk deep = with(in(Checks.NEW, 0, 0, 4), in(Checks.CALL, 1, 0, 2));
        Checks.lay(deep, 2, Checks.OWNED, in(Checks.OUT, 0, 0, 0), in(Checks.GET, 0, 3, 0));
        dueRun("inside a call", deep, Checks.PLAIN, FAILED);
        Checks.dueState("inside a call", deep, 1, 0, 1, 0, 4, 1, 1, 0, 2, 33);
        dueRun("inside a call", deep, Checks.SHORT, FAILED);
        Checks.dueState("inside a call", deep, 1, 1, 0, 1, 4, 0, 1, 0, 2, 33);
    }

    private static void failsAtTheTwentyFifth() {
        int[][] chain = {in(Checks.NEW, 0, 0, 1), in(Checks.NEW, 1, 0, 2), in(Checks.PUT, 1, 0, 0),
            in(Checks.COPY, 0, 1, 0), in(Checks.GO, 0, 0, 1)};
        Desk desk = with(chain);
        dueRun("chain", desk, Checks.SHORT, FAILED);
        Checks.dueState("chain", desk, 0, 0, 0, 0, 94, 24, 24, 0, 1, 1);
        Desk full = fullDesk(in(Checks.OWN, 0, 0, 0), in(Checks.ONLY, 0, 0, 0), in(Checks.COPY, 1, 0, 0),
                in(Checks.OWN, 1, 0, 0), in(Checks.OUT, 0, 0, 0));
        dueRun("own with 24 alive", full, Checks.PLAIN, FAILED);
        Checks.due("own with 24 alive: alive", full.state(5), 24);
        Checks.due("own with 24 alive: made", full.state(6), 24);
        Checks.due("own with 24 alive: what is not shared stays", full.out(0), 1);
        Checks.due("own with 24 alive: fails at", full.state(9), 11);
        Checks.due("own with 24 alive: nothing changed", full.count(1), 2);
        // What NEW would take the place of does not make room before.
        Desk replace = fullDesk(in(Checks.NEW, 0, 0, 0));
        dueRun("new over the first", replace, Checks.PLAIN, FAILED);
        Checks.due("new over the first: fails at", replace.state(9), 8);
    }

    /** Eight instructions that leave 24 objects: one in variable 0, and 23 in a chain in variable 5. */
    private static Desk fullDesk(int[]... more) {
        int[][] all = new int[8 + more.length][];
        all[0] = in(Checks.NEW, 0, 0, 7);
        for (int i = 1; i < 8; i++) {
            // Three calls of method 1 make 5 each, four of method 2 make 2 each: 23.
            all[i] = in(Checks.CALL, 5, 5, i <= 3 ? 1 : 2);
        }
        for (int i = 0; i < more.length; i++) {
            all[8 + i] = more[i];
        }
        Desk desk = with(all);
        int[][] link = {in(Checks.NEW, 1, 0, 0), in(Checks.PUT, 1, 0, 0), in(Checks.COPY, 0, 1, 0)};
        Checks.lay(desk, 1, Checks.OWNED, link[0], link[1], link[2], link[0], link[1], link[2], link[0], link[1],
                link[2], link[0], link[1], link[2], link[0], link[1], link[2], in(Checks.GIVE, 0, 0, 0));
        Checks.lay(desk, 2, Checks.OWNED, link[0], link[1], link[2], link[0], link[1], link[2],
                in(Checks.GIVE, 0, 0, 0));
        return desk;
    }

    private static void failsAtTheSeventhCall() {
        Desk desk = new Desk();
        Checks.lay(desk, 0, Checks.OWNED, in(Checks.NEW, 0, 0, 1), in(Checks.CALL, 0, 0, 1));
        Checks.lay(desk, 1, Checks.OWNED, in(Checks.CALL, 0, 0, 2), in(Checks.GIVE, 0, 0, 0));
        Checks.lay(desk, 2, Checks.OWNED, in(Checks.CALL, 0, 0, 3), in(Checks.GIVE, 0, 0, 0));
        // Methods 0, 1, 2, 3, 1, 2 are six that are not done; method 3 goes round once more.
        Checks.lay(desk, 3, Checks.OWNED, in(Checks.CALL, 0, 0, 1), in(Checks.GIVE, 0, 0, 0));
        for (boolean isShort : new boolean[] {Checks.PLAIN, Checks.SHORT}) {
            dueRun("seventh call", desk, isShort, FAILED);
            Checks.due("seventh call: begun", desk.state(4), 7);
            Checks.due("seventh call: not done", desk.state(8), 6);
            Checks.due("seventh call: where", desk.state(9), 32);
            Checks.due("seventh call: count(1)", desk.count(1), isShort ? 1 : 6);
        }
    }

    /** Method 3 has 16 instructions, so that a call of it is 17 in all. */
    private static Desk counting(int[][] first, int[][] second) {
        Desk desk = with(first);
        Checks.lay(desk, 2, Checks.OWNED, second);
        for (int i = 0; i < 16; i++) {
            desk.add(3, Checks.NONE, 1, 0, 0);
        }
        return desk;
    }

    private static int[][] times(int many, int[] it, int more, int[] other) {
        int[][] all = new int[many + more][];
        for (int i = 0; i < all.length; i++) {
            all[i] = i < many ? it : other;
        }
        return all;
    }

    private static void isLongAtTheThreeHundredFirst() {
        int[] three = in(Checks.CALL, 1, 0, 3);
        int[] none = in(Checks.NONE, 2, 0, 0);
        int[][] first = times(15, three, 1, in(Checks.CALL, 1, 0, 2));
        for (boolean isShort : new boolean[] {Checks.PLAIN, Checks.SHORT}) {
            Desk just = counting(first, times(2, three, 10, none));
            dueRun("300", just, isShort, DONE);
            Checks.dueState("300", just, 0, 0, 0, 0, 300, 0, 0, 0, 0, -1);
            Desk more = counting(first, times(2, three, 11, none));
            dueRun("301", more, isShort, LONG);
            Checks.dueState("301", more, 0, 0, 0, 0, 300, 0, 0, 0, 2, 44);
            // The 300th is a CALL: it is under way, and its first instruction would be one more.
            int[][] calls = times(2, three, 10, none);
            calls[11] = in(Checks.CALL, 3, 0, 3);
            Desk call = counting(first, calls);
            dueRun("a call as the 300th", call, isShort, LONG);
            Checks.dueState("a call as the 300th", call, 0, 0, 0, 0, 300, 0, 0, 0, 3, 48);
            // The 300th is the last of a call that is done then.
            int[][] back = times(14, three, 2, in(Checks.OUT, 1, 0, 0));
            back[14] = in(Checks.CALL, 1, 0, 2);
            Desk done = counting(back, times(3, three, 10, none));
            dueRun("the last of a call as the 300th", done, isShort, LONG);
            Checks.dueState("the last of a call as the 300th", done, 0, 0, 0, 0, 300, 0, 0, 0, 1, 15);
            // What would fail is not begun any more.
            int[][] fails = times(2, three, 11, none);
            fails[12] = in(Checks.ADD, 4, 0, 1);
            Desk bad = counting(first, fails);
            dueRun("a failing one as the 301st", bad, isShort, LONG);
            Checks.due("a failing one as the 301st: begun", bad.state(4), 300);
        }
    }

    private static void isLongWhereItWouldGoOn() {
        Desk desk = with(in(Checks.NEW, 0, 0, 1), in(Checks.OUT, 0, 0, 0), in(Checks.GO, 0, 0, 0));
        dueRun("long", desk, Checks.PLAIN, LONG);
        Checks.dueState("long", desk, 100, 99, 0, 99, 300, 1, 100, 0, 1, 0);
        Checks.due("long: count(100)", desk.count(100), 1);
        dueRun("long", desk, Checks.SHORT, LONG);
        Checks.dueState("long", desk, 100, 100, 0, 100, 300, 0, 100, 0, 1, 0);
        Checks.due("long: count(100)", desk.count(100), 0);
    }

    private static void beginsAnew() {
        Desk desk = with(in(Checks.IFNONE, 0, 0, 2), in(Checks.ADD, 5, 0, 0), in(Checks.NEW, 0, 0, 3),
                in(Checks.PUT, 0, 0, 1), in(Checks.GET, 1, 0, 0), in(Checks.IFNONE, 1, 0, 7), in(Checks.ADD, 5, 0, 0),
                in(Checks.NEW, 2, 0, 0), in(Checks.PUT, 0, 2, 0), in(Checks.GIVE, 0, 0, 0));
        for (int round = 0; round < 4; round++) {
            dueRun("anew", desk, round % 2 == 0, DONE);
            Checks.due("anew: made", desk.state(6), 2);
            Checks.due("anew: count(1)", desk.count(1), 2);
            Checks.due("anew: given", desk.state(7), 1);
        }
    }

    private static void numbersWrap() {
        Desk desk = with(in(Checks.NEW, 0, 0, Integer.MAX_VALUE), in(Checks.ADD, 0, 0, 1), in(Checks.OUT, 0, 0, 0),
                in(Checks.ADD, 0, 0, Integer.MIN_VALUE), in(Checks.OUT, 0, 0, 0), in(Checks.ADD, 0, 0, -1),
                in(Checks.OUT, 0, 0, 0));
        dueRun("wraps", desk, Checks.SHORT, DONE);
        Checks.dueOuts("wraps", desk, Integer.MIN_VALUE, 0, -1);
    }
}

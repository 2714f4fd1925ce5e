/** SHORT runs: letting go of what is not NEEDED, handing over and lending, each sentence at its edges. */
public final class EdgeShortTest {
    private static final int DONE = ArcDesk.DONE, FAILED = ArcDesk.FAILED, LONG = ArcDesk.LONG;

    public static void main(String[] args) {
        letsGoInOrder();
        letsGoBeforeTheFirst();
        letsGoWhenItComesBackToTheFirst();
        letsGoBehindACall();
        letsGoWhatACallGives();
        letsGoAtTheEndInOrder();
        copyHandsOver();
        putHandsOver();
        putToTheWeakFieldDoesNot();
        callHandsOver();
        callWithAAsB();
        copyWithAAsB();
        putWithAAsB();
        nothingIsHandedOverFromALoan();
        callWithAAsBFromALoan();
        lentCallsCountNothing();
        lentCallsOfLoans();
        lentCallWithAAsB();
        giveHandsOver();
        giveOfALoanCounts();
        Checks.finish();
    }

    private static void letsGoInOrder() {
        Checks.sentence("When the METHOD goes on at an instruction, all VARIABLES that are not NEEDED in front of it are LET GO, in order");
        Desk desk = Program.desk("NEW 5 1; NEW 3 2; NEW 1 3; NEW 0 4; NEW 2 5; NEW 4 6; IFNONE 0 9; OUT 0; END; "
                + "OUT 1; OUT 2; OUT 3; OUT 4; OUT 5");
        Checks.dueRun("in order", desk, Checks.SHORT, DONE);
        Checks.dueEnds("in order, short", desk, 3, 5, 2, 6, 1, 4);
        Checks.dueOuts("in order, short", desk, 4);
        Checks.dueRun("in order", desk, Checks.PLAIN, DONE);
        Checks.dueEnds("in order, plain", desk, 4, 3, 5, 2, 6, 1);
        // On the way of a jump, too.
        Program.lay(desk, 0, "NEW 5 1; NEW 3 2; NEW 1 3; NEW 2 5; NEW 4 6; IFNONE 0 12; OUT 1; OUT 2; OUT 3; OUT 4; OUT 5; "
                + "END; OUT 5; END");
        Checks.dueRun("over a jump", desk, Checks.SHORT, DONE);
        Checks.dueEnds("over a jump, short", desk, 3, 4, 2, 5, 1);
    }

    private static void letsGoBeforeTheFirst() {
        Checks.sentence("before the first one of a METHOD, too");
        Desk desk = Program.desk("NEW 0 1; CALL 1 0 1", "NEW 1 2; ADD 2 0; OUT 1");
        Checks.dueRun("not needed", desk, Checks.SHORT, FAILED);
        Checks.dueEnds("not needed, short", desk, 1);
        Checks.dueRun("not needed", desk, Checks.PLAIN, FAILED);
        Checks.dueEnds("not needed, plain", desk);
        // Before it, not behind it: the first instruction itself fails.
        Program.lay(desk, 1, "ADD 2 0");
        Checks.dueRun("the first fails", desk, Checks.SHORT, FAILED);
        Checks.dueEnds("the first fails, short", desk, 1);
        Checks.due("the first fails: where", desk.state(9), 16);
        Program.lay(desk, 1, "LENT: ADD 2 0");
        Checks.dueRun("lent", desk, Checks.SHORT, FAILED);
        Checks.dueEnds("lent, short", desk);
        Checks.dueCounts("lent, short", desk, 1);
    }

    private static void letsGoWhenItComesBackToTheFirst() {
        Checks.sentence("SHORT has LET GO what is not NEEDED in front of that one");
        Desk desk = Program.desk("NEW 0 1; IFNONE 2 0; OUT 0");
        Checks.dueRun("round", desk, Checks.SHORT, LONG);
        Checks.dueState("round, short", desk, 0, 150, 0, 150, 300, 0, 150, 0, 1, 0);
        Checks.dueRun("round", desk, Checks.PLAIN, LONG);
        Checks.dueState("round, plain", desk, 0, 149, 0, 149, 300, 1, 150, 0, 1, 0);
    }

    private static void letsGoBehindACall() {
        Checks.sentence("When the METHOD goes on at an instruction, all VARIABLES that are not NEEDED in front of it are LET GO");
        // Variable 0 is not needed behind the call, but the caller goes on only when that is done.
        Desk desk = Program.desk("NEW 0 1; NEW 1 2; CALL 2 0 1; OUT 1; ADD 3 0", "LENT: NEW 5 3; OUT 5; OUT 0");
        Checks.dueRun("behind a call", desk, Checks.SHORT, FAILED);
        Checks.dueOuts("behind a call", desk, 3, 1, 2);
        Checks.dueEnds("behind a call", desk, 3, 1, 2);
    }

    private static void letsGoWhatACallGives() {
        Checks.sentence("When the METHOD goes on at an instruction, all VARIABLES that are not NEEDED in front of it are LET GO");
        Desk desk = Program.desk("CALL 2 0 1; ADD 3 0; OUT 4", "NEW 0 1; GIVE 0");
        Checks.dueRun("a gift", desk, Checks.SHORT, FAILED);
        Checks.dueEnds("a gift, short", desk, 1);
        Checks.dueRun("a gift", desk, Checks.PLAIN, FAILED);
        Checks.dueEnds("a gift, plain", desk);
        Checks.dueCounts("a gift, plain", desk, 1);
    }

    private static void letsGoAtTheEndInOrder() {
        Checks.sentence("At the end of a METHOD all its VARIABLES are LET GO, in order.");
        // In front of the last one all six are needed, so nothing goes before.
        Desk desk = Program.desk("NEW 5 1; NEW 3 2; NEW 1 3; NEW 0 4; NEW 2 5; NEW 4 6; GO 11; OUT 1; OUT 2; OUT 3; PUT 4 5 2; "
                + "IFNONE 0 7");
        Checks.due("all are needed", desk.set(0, 11, 0), 63);
        for (boolean isShort : Checks.BOTH) {
            Checks.dueRun("at the end", desk, isShort, DONE);
            Checks.dueEnds("at the end", desk, 4, 3, 5, 2, 6, 1);
            Checks.dueState("at the end", desk, 0, 6, 0, 6, 8, 0, 6, 0, 0, -1);
        }
        // A method that was called, whose caller goes on with its own.
        Desk call = Program.desk("NEW 4 1; CALL 0 4 1; OUT 4", "NEW 2 2; PUT 2 0 2");
        Checks.dueRun("in a call", call, Checks.SHORT, DONE);
        Checks.dueEnds("in a call, short", call, 2, 1);
        Checks.dueState("in a call, short", call, 1, 2, 1, 3, 5, 0, 2, 0, 0, -1);
    }

    private static void copyHandsOver() {
        Checks.sentence("COPY HANDS OVER b if it is not NEEDED behind: the reference goes, without counting, and b holds nothing. Else it is counted");
        Desk desk = Program.desk("NEW 0 3; COPY 1 0; ONLY 1; OUT 1");
        Checks.dueRun("not needed", desk, Checks.SHORT, DONE);
        Checks.dueOuts("not needed", desk, 1, 3);
        Checks.dueState("not needed", desk, 2, 1, 0, 1, 4, 0, 1, 0, 0, -1);
        Program.lay(desk, 0, "NEW 0 3; COPY 1 0; ONLY 1; OUT 0");
        Checks.dueRun("needed", desk, Checks.SHORT, DONE);
        Checks.dueOuts("needed", desk, 0, 3);
        Checks.dueState("needed", desk, 2, 1, 1, 2, 4, 0, 1, 0, 0, -1);
        Program.lay(desk, 0, "NEW 0 3; COPY 1 0");
        Checks.dueRun("the last", desk, Checks.SHORT, DONE);
        Checks.dueState("the last", desk, 0, 1, 0, 1, 2, 0, 1, 0, 0, -1);
    }

    private static void putHandsOver() {
        Checks.sentence("PUT HANDS OVER b if it is not NEEDED behind: the reference goes, without counting, and b holds nothing. Else it is counted");
        for (int f = 0; f < 2; f++) {
            Desk desk = Program.desk("NEW 0 1; NEW 1 2; PUT 0 1 " + f + "; GIVE 0");
            Checks.dueRun("not needed", desk, Checks.SHORT, DONE);
            Checks.dueState("not needed", desk, 0, 0, 0, 0, 4, 2, 2, 1, 0, -1);
            Checks.dueCounts("not needed", desk, 1, 1);
            Program.lay(desk, 0, "NEW 0 1; NEW 1 2; PUT 0 1 " + f + "; OUT 1; GIVE 0");
            Checks.dueRun("needed", desk, Checks.SHORT, DONE);
            Checks.dueState("needed", desk, 1, 0, 1, 1, 5, 2, 2, 1, 0, -1);
            Checks.dueCounts("needed", desk, 1, 1);
        }
    }

    private static void putToTheWeakFieldDoesNot() {
        Checks.sentence("PUT (but to FIELD 2, which never counts)");
        Desk desk = Program.desk("NEW 0 1; NEW 1 2; PUT 0 1 2; GIVE 0");
        Checks.due("plan", desk.plan(0, 2), 0);
        Checks.dueRun("weak", desk, Checks.SHORT, DONE);
        Checks.dueState("weak", desk, 0, 1, 0, 1, 4, 1, 2, 1, 0, -1);
        Checks.dueFields("weak", desk, 1, 0, 0, 0);
        Program.lay(desk, 0, "NEW 0 1; NEW 1 2; PUT 0 1 2; OUT 1; ADD 5 0; OUT 1; OUT 0");
        Checks.dueRun("weak, needed", desk, Checks.SHORT, FAILED);
        Checks.dueCounts("weak, needed", desk, 1, 1);
        Checks.dueState("weak, needed", desk, 1, 0, 0, 0, 5, 2, 2, 0, 1, 4);
    }

    private static void callHandsOver() {
        Checks.sentence("CALL of a METHOD that takes OWNED HANDS OVER b if it is not NEEDED behind. Else it is counted");
        Desk desk = Program.desk("NEW 0 3; CALL 1 0 1; OUT 1", "ONLY 0; OUT 0");
        Checks.dueRun("not needed", desk, Checks.SHORT, DONE);
        Checks.dueOuts("not needed", desk, 1, 3, 0);
        Checks.dueState("not needed", desk, 3, 1, 0, 1, 5, 0, 1, 0, 0, -1);
        Program.lay(desk, 0, "NEW 0 3; CALL 1 0 1; OUT 0");
        Checks.dueRun("needed", desk, Checks.SHORT, DONE);
        Checks.dueOuts("needed", desk, 0, 3, 3);
        Checks.dueState("needed", desk, 3, 1, 1, 2, 5, 0, 1, 0, 0, -1);
    }

    private static void callWithAAsB() {
        Checks.sentence("CALL with a as b does so even if it is");
        Desk desk = Program.desk("NEW 0 3; CALL 0 0 1; OUT 0", "ONLY 0; GIVE 0");
        Checks.due("needed: plan", desk.plan(0, 1), 2);
        Checks.dueRun("needed", desk, Checks.SHORT, DONE);
        Checks.dueOuts("needed", desk, 1, 3);
        Checks.dueState("needed", desk, 2, 1, 0, 1, 5, 0, 1, 0, 0, -1);
        Program.lay(desk, 0, "NEW 0 3; CALL 0 0 1");
        Checks.due("not needed: plan", desk.plan(0, 1), 2);
        Checks.dueRun("not needed", desk, Checks.SHORT, DONE);
        Checks.dueOuts("not needed", desk, 1);
        Checks.dueState("not needed", desk, 1, 1, 0, 1, 4, 0, 1, 0, 0, -1);
    }

    private static void copyWithAAsB() {
        Checks.sentence("COPY, PUT with a as b never");
        for (String more : new String[] {"END", "OUT 1"}) {
            Desk desk = Program.desk("NEW 0 3; COPY 0 0; " + more);
            Checks.due("plan", desk.plan(0, 1), 0);
            Checks.dueRun("copy", desk, Checks.SHORT, DONE);
            Checks.due("copy: counted", desk.state(2), 1);
            Checks.due("copy: became less", desk.state(3), 2);
            Checks.dueEnds("copy", desk, 1);
        }
    }

    private static void putWithAAsB() {
        Checks.sentence("COPY, PUT with a as b never");
        for (int f = 0; f < 3; f++) {
            Desk desk = Program.desk("NEW 0 3; PUT 0 0 " + f + "; END");
            Checks.due("plan", desk.plan(0, 1), 0);
            Checks.dueRun("put", desk, Checks.SHORT, DONE);
            Checks.due("put: counted", desk.state(2), f == 2 ? 0 : 1);
            Checks.due("put: became less", desk.state(3), 1);
            Checks.due("put: alive", desk.state(5), f == 2 ? 0 : 1);
            Checks.dueCounts("put", desk, f == 2 ? 0 : 1);
        }
    }

    private static void nothingIsHandedOverFromALoan() {
        Checks.sentence("HAND OVER b if it is not NEEDED behind, and b does not have it on LOAN");
        String[] methods = {"COPY 1 0; GIVE 1", "NEW 1 2; PUT 1 0 0; GIVE 1", "CALL 1 0 2; GIVE 1"};
        for (String method : methods) {
            Desk desk = Program.desk("NEW 0 5; CALL 1 0 1; ADD 3 0; OUT 0; OUT 1", "LENT: " + method, "GIVE 0");
            Checks.dueRun(method, desk, Checks.SHORT, FAILED);
            Checks.due(method + ": count(1)", desk.count(1), 2);
            Checks.due(method + ": counted", desk.state(2), 1);
            Checks.due(method + ": became less", desk.state(3), 0);
            // What is owned is handed over by the same methods.
            Desk owned = Program.desk("NEW 0 5; CALL 1 0 1; ADD 3 0; OUT 1", method, "GIVE 0");
            Checks.dueRun(method, owned, Checks.SHORT, FAILED);
            Checks.due(method + ", owned: count(1)", owned.count(1), 1);
            Checks.due(method + ", owned: counted", owned.state(2), 0);
        }
    }

    private static void callWithAAsBFromALoan() {
        Checks.sentence("CALL with a as b does so even if it is, and b does not have it on LOAN");
        Desk desk = Program.desk("NEW 0 5; CALL 1 0 1; OUT 0", "LENT: CALL 0 0 2; OUT 0", "ONLY 0; GIVE 0");
        Checks.due("plan", desk.plan(1, 0), 2);
        Checks.dueRun("from a loan", desk, Checks.SHORT, DONE);
        Checks.dueOuts("from a loan", desk, 0, 5, 5);
        Checks.dueState("from a loan", desk, 3, 1, 1, 2, 7, 0, 1, 0, 0, -1);
    }

    private static void lentCallsCountNothing() {
        Checks.sentence("CALL of one that takes LENT counts nothing, and its VARIABLE 0 has the object on LOAN");
        for (String more : new String[] {"OUT 0", "OUT 5"}) {
            Desk desk = Program.desk("NEW 0 5; CALL 1 0 1; " + more, "LENT: ONLY 0; OUT 0");
            Checks.due("plan", desk.plan(0, 1), 0);
            Checks.dueRun("lent", desk, Checks.SHORT, DONE);
            Checks.due("lent: only", desk.out(0), 0);
            Checks.due("lent: out", desk.out(1), 5);
            Checks.dueState("lent", desk, 3, 1, 0, 1, 5, 0, 1, 0, 0, -1);
        }
    }

    private static void lentCallsOfLoans() {
        Checks.sentence("CALL of one that takes LENT counts nothing, and its VARIABLE 0 has the object on LOAN");
        Desk desk = Program.desk("NEW 0 5; CALL 1 0 1; OUT 0", "LENT: CALL 1 0 2; CALL 1 0 2", "LENT: ONLY 0; ADD 0 1");
        Checks.dueRun("lent on", desk, Checks.SHORT, DONE);
        Checks.dueOuts("lent on", desk, 0, 0, 7);
        Checks.dueState("lent on", desk, 3, 1, 0, 1, 9, 0, 1, 0, 0, -1);
    }

    private static void lentCallWithAAsB() {
        Checks.sentence("but CALL of one that takes LENT counts nothing");
        // Variable 0 keeps its reference through the call, and is let go for what the call gives.
        Desk desk = Program.desk("NEW 0 5; CALL 0 0 1; OUT 0", "LENT: NEW 1 6; OUT 0; GIVE 1");
        Checks.dueRun("lent, a as b", desk, Checks.SHORT, DONE);
        Checks.dueOuts("lent, a as b", desk, 5, 6);
        Checks.dueEnds("lent, a as b", desk, 1, 2);
        Checks.dueState("lent, a as b", desk, 2, 2, 0, 2, 6, 0, 2, 0, 0, -1);
        // What it gives may be what it was lent.
        Program.lay(desk, 1, "LENT: GIVE 0");
        Checks.dueRun("given back", desk, Checks.SHORT, DONE);
        Checks.dueOuts("given back", desk, 5);
        Checks.dueEnds("given back", desk, 1);
        Checks.dueState("given back", desk, 1, 1, 1, 2, 4, 0, 1, 0, 0, -1);
    }

    private static void giveHandsOver() {
        Checks.sentence("GIVE hands a over, unless it has that on LOAN");
        Desk desk = Program.desk("CALL 0 0 1; ONLY 0; GIVE 0", "NEW 3 1; GIVE 3");
        Checks.dueRun("handed over", desk, Checks.SHORT, DONE);
        Checks.dueOuts("handed over", desk, 1);
        Checks.dueState("handed over", desk, 1, 0, 0, 0, 5, 1, 1, 1, 0, -1);
        Program.lay(desk, 0, "GIVE 0");
        Checks.dueRun("nothing", desk, Checks.SHORT, DONE);
        Checks.dueState("nothing", desk, 0, 0, 0, 0, 1, 0, 0, 0, 0, -1);
    }

    private static void giveOfALoanCounts() {
        Checks.sentence("GIVE hands a over, unless it has that on LOAN");
        Desk desk = Program.desk("NEW 0 5; CALL 1 0 1; NONE 0; ONLY 1; GIVE 1", "LENT: GIVE 0");
        Checks.dueRun("a loan", desk, Checks.SHORT, DONE);
        Checks.dueOuts("a loan", desk, 1);
        Checks.dueState("a loan", desk, 1, 0, 1, 1, 6, 1, 1, 1, 0, -1);
        Program.lay(desk, 0, "CALL 1 0 1; OUT 1");
        Checks.dueRun("a loan of nothing", desk, Checks.SHORT, DONE);
        Checks.dueState("a loan of nothing", desk, 1, 0, 0, 0, 3, 0, 0, 0, 0, -1);
    }
}

/** PLAIN runs: each sentence at its edges. */
public final class EdgePlainTest {
    private static final int DONE = ArcDesk.DONE, FAILED = ArcDesk.FAILED;

    public static void main(String[] args) {
        copyCounts();
        putCounts();
        callCounts();
        newAndGiftsAreHandedOver();
        lentIsOwned();
        getCounts();
        letsGoAtTheEndAlone();
        letsGoInOrder();
        giveCountsFirst();
        Checks.finish();
    }

    private static void plain(String what, Desk desk, int want) {
        Checks.dueRun(what, desk, Checks.PLAIN, want);
    }

    private static void copyCounts() {
        Checks.sentence("PLAIN runs: nothing is handed over but what NEW makes and a CALL GIVES");
        Desk desk = Program.desk("NEW 0 3; COPY 1 0; ONLY 1; ADD 5 0");
        plain("copy", desk, FAILED);
        Checks.dueOuts("copy", desk, 0);
        Checks.dueCounts("copy", desk, 2);
        Checks.dueState("copy", desk, 1, 0, 1, 0, 4, 1, 1, 0, 1, 3);
    }

    private static void putCounts() {
        Checks.sentence("PLAIN runs: nothing is handed over but what NEW makes and a CALL GIVES");
        for (int f = 0; f < 3; f++) {
            Desk desk = Program.desk("NEW 0 1; NEW 1 2; PUT 0 1 " + f + "; ADD 5 0");
            plain("put", desk, FAILED);
            Checks.dueCounts("put", desk, 1, f == 2 ? 1 : 2);
            Checks.due("put: counted", desk.state(2), f == 2 ? 0 : 1);
            Checks.due("put: field", desk.field(1, f), 2);
        }
    }

    private static void callCounts() {
        Checks.sentence("PLAIN runs: nothing is handed over but what NEW makes and a CALL GIVES");
        for (String call : new String[] {"CALL 1 0 1", "CALL 0 0 1"}) {
            Desk desk = Program.desk("NEW 0 1; " + call, "ONLY 0; ADD 5 0");
            plain("call", desk, FAILED);
            Checks.dueOuts("call", desk, 0);
            Checks.dueCounts("call", desk, 2);
            Checks.dueState("call", desk, 1, 0, 1, 0, 4, 1, 1, 0, 2, 17);
        }
    }

    private static void newAndGiftsAreHandedOver() {
        Checks.sentence("nothing is handed over but what NEW makes and a CALL GIVES");
        Desk desk = Program.desk("CALL 2 0 1; ONLY 2; ADD 5 0", "NEW 3 1; ONLY 3; GIVE 3");
        plain("a gift", desk, FAILED);
        Checks.dueOuts("a gift", desk, 1, 1);
        Checks.dueState("a gift", desk, 2, 0, 1, 1, 6, 1, 1, 0, 1, 2);
        Checks.dueCounts("a gift", desk, 1);
    }

    private static void lentIsOwned() {
        Checks.sentence("nothing is on LOAN (all METHODS take OWNED)");
        Desk desk = Program.desk("NEW 0 1; CALL 1 0 1; OUT 0", "LENT: OUT 0; ADD 5 0");
        plain("lent", desk, FAILED);
        Checks.dueCounts("lent", desk, 2);
        Checks.due("lent: counted", desk.state(2), 1);
        Program.lay(desk, 1, "LENT: OUT 0; NONE 0; ADD 5 0");
        plain("lent, let go", desk, FAILED);
        Checks.dueCounts("lent, let go", desk, 1);
        Checks.due("lent, let go: became less", desk.state(3), 1);
        // What a method is run with is nothing, whichever way it takes.
        Program.lay(desk, 0, "LENT: OUT 0; NEW 0 2; ONLY 0; OUT 0");
        plain("a lent one is run", desk, DONE);
        Checks.dueOuts("a lent one is run", desk, 0, 1, 2);
        Checks.dueState("a lent one is run", desk, 3, 1, 0, 1, 4, 0, 1, 0, 0, -1);
    }

    private static void getCounts() {
        Checks.sentence("nothing is on LOAN");
        Desk desk = Program.desk("NEW 0 1; NEW 1 2; PUT 0 1 0; NONE 1; GET 1 0 0; OUT 1; NONE 0; ONLY 1");
        plain("get", desk, DONE);
        Checks.dueOuts("get", desk, 2, 1);
        Checks.dueEnds("get", desk, 1, 2);
        Checks.due("get: counted", desk.state(2), 2);
        Desk loan = Program.desk("NEW 0 1; NEW 1 2; PUT 0 1 0; GET 2 0 0; OUT 2; OUT 0; ADD 5 0");
        Checks.due("it is a loan in SHORT runs", loan.plan(0, 3), 1);
        plain("get", loan, FAILED);
        Checks.dueCounts("get", loan, 1, 3);
    }

    private static void letsGoAtTheEndAlone() {
        Checks.sentence("VARIABLES are LET GO at the end of a METHOD");
        Desk desk = Program.desk("NEW 0 1; OUT 0; OUT 1; CALL 1 0 1; ADD 2 0", "NEW 4 5; OUT 4; OUT 1");
        plain("not needed any more", desk, FAILED);
        Checks.dueEnds("not needed any more", desk, 2);
        Checks.dueCounts("not needed any more", desk, 1, 0);
    }

    private static void letsGoInOrder() {
        Checks.sentence("VARIABLES are LET GO at the end of a METHOD, in order");
        String filled = "NEW 5 1; NEW 3 2; NEW 1 3; NEW 0 4; NEW 2 5; NEW 4 6";
        for (String end : new String[] {"", "; END", "; GO 9"}) {
            Desk desk = Program.desk(filled + end);
            plain("in order" + end, desk, DONE);
            Checks.dueEnds("in order" + end, desk, 4, 3, 5, 2, 6, 1);
        }
        Desk give = Program.desk(filled + "; GIVE 2");
        plain("but for what is given", give, DONE);
        Checks.dueEnds("but for what is given", give, 4, 3, 2, 6, 1);
        Checks.due("but for what is given: it", give.state(7), 5);
    }

    private static void giveCountsFirst() {
        Checks.sentence("GIVE counts what it GIVES first");
        Desk desk = Program.desk("NEW 0 1; NEW 1 2; PUT 0 1 0; GIVE 0");
        plain("give", desk, DONE);
        Checks.dueState("give", desk, 0, 0, 2, 2, 4, 2, 2, 1, 0, -1);
        Checks.dueCounts("give", desk, 1, 1);
        Program.lay(desk, 0, "GIVE 0");
        plain("give nothing", desk, DONE);
        Checks.dueState("give nothing", desk, 0, 0, 0, 0, 1, 0, 0, 0, 0, -1);
    }
}

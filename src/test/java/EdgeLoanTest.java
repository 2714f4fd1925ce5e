/** Which GETs are LOANS: each condition of the sentence at its edges, and what a LOAN does in a SHORT run. */
public final class EdgeLoanTest {
    private static final String GET = "GET 1 0 0; ";

    public static void main(String[] args) {
        notTheWeakField();
        notIntoItself();
        overFiveOps();
        overNoOther();
        asLongAsItIsNeeded();
        theLastOne();
        onAllWays();
        notWhereNoWayLeads();
        onTheWayBack();
        overJumpsBehindTheLast();
        whileTheOthersAreNeeded();
        roundALoopWithOthers();
        whereNoWayLeads();
        isNotCounted();
        isLetGoWithoutCounting();
        Checks.finish();
    }

    private static void duePlan(String text, int i, int want) {
        Checks.due(text + ": plan(0, " + i + ")", Program.desk(text, "END", "END", "LENT: END").plan(0, i), want);
    }

    private static void notTheWeakField() {
        Checks.sentence("A GET is a LOAN, not counted, if c is not 2");
        for (String more : new String[] {"", "; END", "; OUT 1; OUT 0"}) {
            duePlan("GET 1 0 0" + more, 0, 1);
            duePlan("GET 1 0 1" + more, 0, 1);
            duePlan("GET 1 0 2" + more, 0, 0);
        }
    }

    private static void notIntoItself() {
        Checks.sentence("a is not b");
        for (int v = 0; v < 6; v++) {
            duePlan("GET " + v + " " + v + " 0; END", 0, 0);
            duePlan("GET " + v + " " + (v + 1) % 6 + " 0; END", 0, 1);
        }
    }

    private static void overFiveOps() {
        Checks.sentence("there are just OUT, ADD, ONLY, IFNONE, GO");
        for (String op : new String[] {"OUT 1", "ADD 1 3", "ONLY 1", "IFNONE 1 2", "GO 2", "OUT 0", "ADD 0 3", "ONLY 0", "IFNONE 0 2"}) {
            duePlan(GET + op + "; OUT 1; OUT 0", 0, 1);
        }
        duePlan(GET + "OUT 1; ADD 1 1; ONLY 1; IFNONE 1 5; GO 6; OUT 1; OUT 0", 0, 1);
    }

    private static void overNoOther() {
        Checks.sentence("there are just OUT, ADD, ONLY, IFNONE, GO");
        // Variables 0 and 1 are needed in front of each, and in front of all that comes behind it.
        String[] others = {"NEW 2 0", "COPY 2 0", "COPY 2 1", "NONE 2", "GET 2 0 0", "GET 2 1 0", "PUT 0 1 0", "PUT 0 1 2",
            "PUT 1 0 1", "PUT 0 0 0", "OWN 0", "OWN 1", "OWN 2", "CALL 2 0 1", "CALL 2 0 3", "CALL 2 1 3"};
        for (String op : others) {
            duePlan(GET + op + "; OUT 1; OUT 0", 0, 0);
        }
        duePlan(GET + "GIVE 1", 0, 0);
        duePlan(GET + "PUT 0 1 0", 0, 0);
        duePlan(GET + "COPY 0 1", 0, 0);
    }

    private static void asLongAsItIsNeeded() {
        Checks.sentence("at all instructions to which ways lead from behind it, as long as a is NEEDED in front of them");
        String[] others = {"NEW 2 0", "COPY 2 0", "NONE 2", "GET 2 0 0", "PUT 0 0 0", "OWN 0", "CALL 2 0 1", "GIVE 0"};
        for (String op : others) {
            duePlan(GET + "OUT 1; IFNONE 0 3; " + op, 0, 1);
            // What comes behind the next writing of a is not about this one.
            duePlan(GET + "OUT 1; NEW 1 5; " + op + "; PUT 0 1 0", 0, 1);
            duePlan(GET + op + "; OUT 0", 0, 1);
        }
        duePlan(GET + "END; OUT 1", 0, 1);
        duePlan(GET + "NONE 1; OWN 1; GIVE 1", 0, 1);
        duePlan(GET + GET + "OUT 1; OUT 0", 0, 1);
        duePlan(GET + GET + "OUT 1; OUT 0", 1, 1);
    }

    private static void theLastOne() {
        Checks.sentence("at all instructions to which ways lead from behind it");
        duePlan("GET 1 0 0", 0, 1);
        duePlan(Program.times(15, "OUT 0") + "; GET 1 0 1", 15, 1);
        // What the next method begins with is not behind it.
        Desk desk = Program.desk(Program.times(15, "OUT 0") + "; GET 1 0 1", Program.times(16, "PUT 0 1 0"));
        Checks.due("the next method needs both", desk.set(1, 0, 0), 3);
        Checks.due("the next method", desk.plan(0, 15), 1);
        // Nor is what stood there before the method was laid anew.
        Program.lay(desk, 0, "GET 1 0 0; COPY 2 1; PUT 0 1 0");
        Checks.due("before", desk.plan(0, 0), 0);
        Program.lay(desk, 0, "GET 1 0 0");
        Checks.due("laid anew", desk.plan(0, 0), 1);
    }

    private static void onAllWays() {
        Checks.sentence("at all instructions to which ways lead from behind it");
        duePlan(GET + "IFNONE 1 4; OUT 1; GO 5; OUT 1; OUT 0", 0, 1);
        duePlan(GET + "IFNONE 1 4; OUT 1; GO 5; COPY 2 1; OUT 0", 0, 0);
        duePlan(GET + "IFNONE 1 4; COPY 2 1; GO 5; OUT 1; OUT 0", 0, 0);
        duePlan(GET + "GO 15; " + Program.times(13, "COPY 2 1") + "; OUT 1", 0, 0);
        duePlan(GET + "IFNONE 0 15; " + Program.times(13, "OUT 0") + "; PUT 0 1 0", 0, 0);
        duePlan(GET + "IFNONE 0 15; " + Program.times(13, "OUT 0") + "; OUT 0", 0, 1);
        // Fifteen further on, at the sixteenth.
        duePlan(GET + Program.times(14, "OUT 0") + "; PUT 0 1 0", 0, 0);
        duePlan(GET + Program.times(13, "OUT 0") + "; OUT 1; OUT 0", 0, 1);
    }

    private static void notWhereNoWayLeads() {
        Checks.sentence("at all instructions to which ways lead from behind it");
        // In front of the first a is needed, but nothing leads back there.
        duePlan("OWN 1; GET 1 0 0; GO 3; OUT 1; OUT 0", 1, 1);
        duePlan("OWN 1; GET 1 0 0; IFNONE 1 4; OUT 1; OUT 0", 1, 1);
        // What a GO goes over.
        duePlan(GET + "GO 3; COPY 2 1; OUT 1; OUT 0", 0, 1);
        duePlan(GET + "GO 4; COPY 2 1; COPY 2 1; OUT 1; OUT 0; END; COPY 2 1", 0, 1);
    }

    private static void onTheWayBack() {
        Checks.sentence("at all instructions to which ways lead from behind it");
        duePlan("GO 2; PUT 0 1 1; GET 1 0 0; IFNONE 0 1; OUT 0", 2, 0);
        duePlan("GO 2; OUT 1; GET 1 0 0; IFNONE 0 1; OUT 0", 2, 1);
        // Back to the first one.
        duePlan("PUT 0 1 1; NONE 1; GET 1 0 0; IFNONE 0 0; OUT 0", 2, 0);
        duePlan("OUT 1; OUT 0; GET 1 0 0; IFNONE 0 0; OUT 0", 2, 1);
        duePlan(GET + "OUT 1; OUT 0; GO 0", 0, 1);
        duePlan(GET + "OUT 1; IFNONE 0 1; END", 0, 1);
        duePlan(GET + "OUT 1; GO 1", 0, 0);
        // Each jump goes back by one: the instruction that breaks it is the last that is found.
        duePlan(Program.farBack("GET 1 0 0", "COPY 2 1", "OUT 0"), 0, 0);
        duePlan(Program.farBack("GET 1 0 0", "OUT 1", "OUT 0"), 0, 1);
    }

    private static void overJumpsBehindTheLast() {
        Checks.sentence("Behind the last instruction it goes on as with an END");
        duePlan(GET + "IFNONE 0 15; OUT 1; OUT 0", 0, 1);
        duePlan(GET + "GO 9; PUT 0 1 0", 0, 1);
        duePlan(GET + "IFNONE 1 3; OUT 0", 0, 1);
    }

    private static void whileTheOthersAreNeeded() {
        Checks.sentence("all VARIABLES but a that are NEEDED in front of the GET are NEEDED in front of them, too");
        duePlan(GET + "OUT 1", 0, 0);
        duePlan(GET + "OUT 0; OUT 1", 0, 0);
        duePlan(GET + "OUT 1; OUT 0", 0, 1);
        duePlan(GET + "OUT 5; OUT 1; OUT 0", 0, 0);
        duePlan(GET + "OUT 1; OUT 5; OUT 0", 0, 1);
        duePlan(GET + "OUT 1; OUT 0; OUT 5", 0, 1);
        // Variable 2 is needed on the way of the jump alone.
        duePlan(GET + "IFNONE 0 3; OUT 1; OUT 0", 0, 1);
        duePlan(GET + "IFNONE 0 4; OUT 1; GO 5; OUT 2; OUT 0", 0, 0);
        duePlan(GET + "IFNONE 0 3; GO 4; OUT 2; OUT 0", 0, 1);
    }

    private static void roundALoopWithOthers() {
        Checks.sentence("all VARIABLES but a that are NEEDED in front of the GET are NEEDED in front of them, too");
        // Variable 2 comes only when a is not needed any more.
        duePlan("GET 1 0 0; OUT 1; OUT 0; NEW 2 1; OUT 2; GO 0", 0, 1);
        // The loop needs variables 0 and 2 for as long as a is; without it, 0 goes at once.
        duePlan("GO 4; OUT 1; OUT 0; OUT 2; GET 1 0 0; GO 1", 4, 1);
        duePlan("GO 4; OUT 1; OUT 2; END; GET 1 0 0; GO 1", 4, 0);
    }

    private static void whereNoWayLeads() {
        Checks.sentence("plan: 1 if it is a GET that is a LOAN");
        duePlan("END; GET 1 0 0; OUT 1; OUT 0", 1, 1);
        duePlan("END; GET 1 0 0; OUT 1", 1, 0);
        duePlan("GO 0; GET 1 0 0", 1, 1);
    }

    private static void isNotCounted() {
        Checks.sentence("A GET is a LOAN, not counted");
        Desk desk = Program.desk("NEW 0 1; NEW 1 2; PUT 0 1 0; GET 1 0 0; ADD 1 5; ONLY 1; OUT 1; OUT 0");
        Checks.dueRun("lent", desk, Checks.SHORT, ArcDesk.DONE);
        Checks.dueOuts("lent", desk, 0, 7, 1);
        Checks.dueState("lent", desk, 3, 2, 0, 2, 8, 0, 2, 0, 0, -1);
        Checks.dueRun("plain", desk, Checks.PLAIN, ArcDesk.DONE);
        Checks.dueOuts("plain", desk, 0, 7, 1);
        Checks.due("plain: counted", desk.state(2), 2);
        Program.lay(desk, 0, "NEW 0 1; NEW 1 2; PUT 0 1 0; GET 1 0 0; OUT 1");
        Checks.dueRun("not lent", desk, Checks.SHORT, ArcDesk.DONE);
        Checks.dueState("not lent", desk, 1, 2, 1, 3, 5, 0, 2, 0, 0, -1);
    }

    private static void isLetGoWithoutCounting() {
        Checks.sentence("makes the COUNT one less, unless it is on LOAN");
        // Never needed: it goes in front of the next, or at the end, where variable 0 went before it.
        for (String more : new String[] {"; OUT 0", ""}) {
            Desk desk = Program.desk("NEW 0 1; NEW 1 2; PUT 0 1 0; GET 1 0 0" + more);
            Checks.dueRun("never needed", desk, Checks.SHORT, ArcDesk.DONE);
            Checks.dueEnds("never needed", desk, 1, 2);
            Checks.due("never needed: counted", desk.state(2), 0);
            Checks.due("never needed: became less", desk.state(3), 2);
        }
        // Round a loop the variable gets one loan after another.
        Desk loop = Program.desk("NEW 0 1; NEW 1 2; PUT 0 1 0; GET 1 0 0; OUT 1; OUT 0; GO 3");
        Checks.dueRun("round", loop, Checks.SHORT, ArcDesk.LONG);
        Checks.due("round: counted", loop.state(2), 0);
        Checks.due("round: became less", loop.state(3), 0);
        Checks.dueCounts("round", loop, 1, 1);
    }
}

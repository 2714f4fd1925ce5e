/** KEEPING and what is LEFT, as set 1 to 3 tell it: each sentence at its edges. */
public final class EdgeKeepingTest {
    private static final int BAD = ArcDesk.BAD;

    public static void main(String[] args) {
        theFirstOne();
        allWays();
        untilNothingIsNew();
        comesByNew();
        comesByCopy();
        comesByGet();
        comesByOwn();
        comesByCall();
        goesByNone();
        goesByALoan();
        goesByHandingOver();
        goesBeforeAComes();
        othersChangeNothing();
        leftOnTheWayBehind();
        leftOnTheWayOfTheJump();
        leftBehindTheLast();
        giveAndEndAreOnNoWay();
        noneWhereNoWayLeads();
        allSix();
        eachMethodByItsOwnWay();
        Checks.finish();
    }

    private static void due(String text, int i, int... want) {
        Checks.dueSets(text, Program.desk(text, "GIVE 0", "LENT: GIVE 0"), 0, i, want);
    }

    private static void theFirstOne() {
        Checks.sentence("there it is VARIABLE 0 in a METHOD that takes OWNED, if it is NEEDED there");
        due("OUT 0", 0, 1, 1, 1, BAD);
        due("LENT: OUT 0", 0, 1, 0, 0, BAD);
        due("NEW 1 1; OUT 1", 0, 0, 0, 0, BAD);
        due("NEW 0 1; OUT 0", 0, 0, 0, 0, BAD);
        due("PUT 1 2 0; PUT 3 4 0; OUT 5", 0, 62, 0, 0, BAD);
        due("NEW 1 1; OUT 0; OUT 1", 0, 1, 1, 0, BAD);
    }

    private static void allWays() {
        Checks.sentence("found by going on from the first one on all ways");
        // Variable 1 comes on the way behind the IFNONE alone, and variable 2 on the other.
        String text = "IFNONE 0 3; NEW 1 1; GO 4; NEW 2 1; PUT 1 2 2";
        due(text, 0, 7, 1, 1, 1);
        due(text, 1, 4, 0, 0, BAD);
        due(text, 2, 6, 2, BAD, 0);
        due(text, 3, 2, 0, 0, BAD);
        due(text, 4, 6, 6, 6, BAD);
    }

    private static void untilNothingIsNew() {
        Checks.sentence("until nothing is new");
        // What the last instruction brings goes round to the first, and from there on through all.
        String text = "OUT 5; OUT 4; OUT 3; NEW 5 1; NEW 4 1; NEW 3 1; IFNONE 2 0; END";
        due(text, 0, 60, 56, 32, BAD);
        due(text, 1, 28, 24, 16, BAD);
        due("LENT: GO 1; OUT 0; OWN 0; GO 0", 0, 1, 1, BAD, 0);
        due("LENT: GO 1; OUT 0; OWN 0; GO 0", 1, 1, 1, 0, BAD);
        // Each jump goes back by one, so that what comes at the first gets to the end of the way late.
        String back = Program.farBack("NEW 1 1", "OUT 1", "OUT 0");
        due(back, 1, 3, 3, BAD, 0);
        due(back, 15, 3, 3, BAD, 0);
        due(back, 5, 3, 3, BAD, 0);
        due(back, 2, 3, 3, 2, BAD);
        due(back, 3, 1, 1, 1, BAD);
        due(back, 4, 0, 0, BAD, BAD);
    }

    private static void comesByNew() {
        Checks.sentence("By NEW, COPY, GET that is no LOAN, OWN and CALL a comes to them");
        for (int v = 0; v < 6; v++) {
            due("NEW " + v + " 1; OUT " + v, 1, 1 << v, 1 << v, 1 << v, BAD);
        }
        due("NEW 3 1; END", 0, 0, 0, 8, BAD);
    }

    private static void comesByCopy() {
        Checks.sentence("By NEW, COPY, GET that is no LOAN, OWN and CALL a comes to them");
        due("LENT: COPY 1 0; OUT 1; OUT 0", 1, 3, 2, 2, BAD);
        due("LENT: COPY 0 0; OUT 0", 1, 1, 1, 1, BAD);
        due("LENT: COPY 1 0; END", 0, 1, 0, 2, BAD);
    }

    private static void comesByGet() {
        Checks.sentence("By NEW, COPY, GET that is no LOAN, OWN and CALL a comes to them");
        due("LENT: GET 1 0 2; OUT 1; OUT 0", 1, 3, 2, 2, BAD);
        due("LENT: GET 0 0 0; OUT 0", 1, 1, 1, 1, BAD);
        due("LENT: GET 1 0 0; OUT 1", 1, 2, 2, 2, BAD);
        due("LENT: GET 1 0 1; OUT 1; OUT 0", 1, 3, 0, 0, BAD);
    }

    private static void comesByOwn() {
        Checks.sentence("By NEW, COPY, GET that is no LOAN, OWN and CALL a comes to them");
        due("LENT: OWN 0; OUT 0", 0, 1, 0, 0, BAD);
        due("LENT: OWN 0; OUT 0", 1, 1, 1, 1, BAD);
        due("LENT: OWN 4", 0, 16, 0, 16, BAD);
    }

    private static void comesByCall() {
        Checks.sentence("By NEW, COPY, GET that is no LOAN, OWN and CALL a comes to them");
        due("LENT: CALL 3 0 1; OUT 3", 1, 8, 8, 8, BAD);
        due("LENT: CALL 3 0 2; OUT 3; OUT 0", 1, 9, 8, 8, BAD);
        due("LENT: CALL 3 0 1; END", 0, 1, 0, 8, BAD);
    }

    private static void goesByNone() {
        Checks.sentence("by NONE and a GET that is a LOAN a goes from them");
        due("NEW 1 1; NONE 1; OUT 1", 0, 0, 0, 2, BAD);
        due("NEW 1 1; NONE 1; OUT 1", 2, 2, 0, 0, BAD);
        due("NEW 1 1; NONE 1; OUT 1", 1, 0, 0, 0, BAD);
        due("NONE 0; OUT 0", 1, 1, 0, 0, BAD);
        due("NONE 0; OUT 0", 0, 0, 0, 0, BAD);
        // The others stay.
        due("NONE 1; OUT 1; OUT 0", 0, 1, 1, 0, BAD);
        due("NONE 1; OUT 1; OUT 0", 1, 3, 1, 0, BAD);
        due("NONE 1; END", 0, 0, 0, 0, BAD);
    }

    private static void goesByALoan() {
        Checks.sentence("by NONE and a GET that is a LOAN a goes from them");
        due("NEW 1 1; OUT 1; GET 1 0 0; OUT 1; OUT 0", 1, 3, 3, 2, BAD);
        due("NEW 1 1; OUT 1; GET 1 0 0; OUT 1; OUT 0", 2, 1, 1, 0, BAD);
        due("NEW 1 1; OUT 1; GET 1 0 0; OUT 1; OUT 0", 3, 3, 1, 0, BAD);
        due("GET 1 0 0", 0, 1, 1, 1, BAD);
    }

    private static void goesByHandingOver() {
        Checks.sentence("by what HANDS OVER b that goes");
        due("NEW 1 1; PUT 0 1 0; GIVE 0", 1, 3, 3, 0, BAD);
        due("NEW 1 1; PUT 0 1 1; GIVE 0", 2, 1, 1, BAD, BAD);
        due("NEW 1 1; PUT 0 1 2; GIVE 0", 1, 3, 3, 2, BAD);
        due("NEW 1 1; PUT 0 1 0; OUT 1; GIVE 0", 2, 3, 3, 2, BAD);
        due("COPY 2 0; OUT 2", 0, 1, 1, 0, BAD);
        due("COPY 2 0; PUT 0 2 2", 1, 5, 5, 5, BAD);
        due("CALL 2 0 1; OUT 2", 0, 1, 1, 0, BAD);
        due("CALL 2 0 2; OUT 2", 0, 1, 1, 1, BAD);
        due("CALL 2 0 1; PUT 0 2 2", 1, 5, 5, 5, BAD);
        // With a as b COPY and PUT hand nothing over.
        due("PUT 0 0 0; END", 0, 1, 1, 1, BAD);
        due("COPY 0 0; END", 0, 1, 1, 1, BAD);
    }

    private static void goesBeforeAComes() {
        Checks.sentence("by what HANDS OVER b that goes (before a comes)");
        due("CALL 0 0 1; OUT 0", 1, 1, 1, 1, BAD);
        due("CALL 0 0 1; END", 0, 1, 1, 1, BAD);
        due("NEW 4 1; CALL 4 4 1; OUT 4", 2, 16, 16, 16, BAD);
    }

    private static void othersChangeNothing() {
        Checks.sentence("KEEPING: the VARIABLES that may have a COUNTED reference in front of an instruction in SHORT runs");
        for (String op : new String[] {"OUT 3", "ADD 3 1", "ONLY 3", "IFNONE 3 2", "GO 2"}) {
            String text = "NEW 1 1; " + op + "; PUT 0 1 2";
            due(text, 2, 3, 3, 3, BAD);
        }
        // That it holds nothing on the way of its jump does not take a from them.
        due("IFNONE 0 1; OUT 0", 1, 1, 1, 1, BAD);
        due("IFNONE 0 3; OUT 0; END; OUT 0", 3, 1, 1, 1, BAD);
    }

    private static void leftOnTheWayBehind() {
        Checks.sentence("On the way to the next instruction those go that are not NEEDED in front of it: they are LEFT there");
        due("NEW 1 1; NEW 2 1; PUT 1 2 2; OUT 1; OUT 0", 2, 7, 7, 4, BAD);
        due("NEW 1 1; NEW 2 1; PUT 1 2 2; OUT 1; OUT 0", 3, 3, 3, 2, BAD);
        due("NEW 1 1; NEW 2 1; PUT 1 2 2; OUT 1; OUT 0", 4, 1, 1, 1, BAD);
        due("NEW 1 1; IFNONE 2 3; OUT 0; OUT 1", 1, 7, 3, 0, 1);
        // What is not kept is not left, though it goes from those that are needed.
        due("LENT: OUT 0; OUT 5; END", 0, 33, 0, 0, BAD);
    }

    private static void leftOnTheWayOfTheJump() {
        Checks.sentence("3: on the way of its jump");
        due("NEW 1 1; IFNONE 0 4; OUT 0; END; OUT 1", 1, 3, 3, 2, 1);
        due("NEW 1 1; GO 3; OUT 1; OUT 0", 0, 1, 1, 2, BAD);
        due("NEW 1 1; IFNONE 1 1; OUT 0", 1, 3, 3, 2, 0);
        due("GO 0", 0, 0, 0, BAD, 0);
        due("IFNONE 0 1; END", 0, 1, 1, 1, 1);
        // A GO leads to one instruction, so all that it keeps is needed there.
        due("GO 1; OUT 0", 0, 1, 1, BAD, 0);
    }

    private static void leftBehindTheLast() {
        Checks.sentence("on the way behind the last one all are");
        due("NEW 1 1; PUT 0 1 2", 1, 3, 3, 3, BAD);
        due(Program.times(15, "OUT 0") + "; OUT 0", 15, 1, 1, 1, BAD);
        due("NEW 3 1", 0, 0, 0, 8, BAD);
        for (int c = 2; c < 16; c++) {
            due("NEW 1 1; IFNONE 0 " + c, 1, 1, 1, 1, 1);
        }
        due("NEW 1 1; IFNONE 0 9; OUT 1; OUT 0", 1, 3, 3, 0, 3);
        due("IFNONE 0 1; GO 9", 0, 1, 1, 1, 1);
        due("IFNONE 0 1; GO 9", 1, 0, 0, BAD, 0);
    }

    private static void giveAndEndAreOnNoWay() {
        Checks.sentence("those of GIVE and END are on no way");
        due("GIVE 0", 0, 1, 1, BAD, BAD);
        due("END", 0, 0, 0, BAD, BAD);
        due("GIVE 0; OUT 0", 0, 1, 1, BAD, BAD);
        due("GIVE 0; OUT 0", 1, 1, 0, 0, BAD);
        due("END; OUT 0", 1, 1, 0, 0, BAD);
    }

    private static void noneWhereNoWayLeads() {
        Checks.sentence("1 to 3: none if no way leads to the instruction");
        String text = "GO 4; NEW 1 1; OUT 1; GO 1; OUT 0; END; IFNONE 0 1; NEW 3 1";
        due(text, 0, 1, 1, BAD, 0);
        due(text, 1, 0, 0, 0, BAD);
        due(text, 2, 2, 0, 0, BAD);
        due(text, 3, 0, 0, BAD, 0);
        due(text, 4, 1, 1, 1, BAD);
        due(text, 5, 0, 0, BAD, BAD);
        due(text, 6, 1, 0, 0, 0);
        due(text, 7, 0, 0, 0, BAD);
        // What comes from there to an instruction that has a way is not kept there.
        due("GO 2; NEW 1 1; OUT 1; END", 2, 2, 0, 0, BAD);
        due("GO 2; CALL 1 0 1; OUT 1; END", 2, 2, 0, 0, BAD);
    }

    private static void allSix() {
        Checks.sentence("A set of VARIABLES of an instruction, as a sum of 2 to the power v");
        String text = "NEW 0 1; NEW 1 1; NEW 2 1; NEW 3 1; NEW 4 1; NEW 5 1; PUT 0 1 2; PUT 2 3 2; PUT 4 5 2";
        due(text, 5, 31, 31, 0, BAD);
        due(text, 6, 63, 63, 3, BAD);
        due(text, 7, 60, 60, 12, BAD);
        due(text, 8, 48, 48, 48, BAD);
        String all = "NEW 0 1; NEW 1 1; NEW 2 1; NEW 3 1; NEW 4 1; NEW 5 1; IFNONE 0 15; PUT 0 1 2; PUT 2 3 2; PUT 4 5 2";
        due(all, 6, 63, 63, 0, 63);
    }

    private static void eachMethodByItsOwnWay() {
        Checks.sentence("VARIABLE 0 in a METHOD that takes OWNED");
        Desk desk = new Desk();
        for (int m = 0; m < 4; m++) {
            Program.lay(desk, m, m % 2 == 0 ? "OUT 0" : "LENT: OUT 0");
        }
        for (int m = 0; m < 4; m++) {
            Checks.due("method " + m, desk.set(m, 0, 1), m % 2 == 0 ? 1 : 0);
        }
        // How one that is called takes tells what the caller keeps, even if it has no instructions.
        Program.lay(desk, 0, "CALL 1 0 3; OUT 1");
        desk.method(3, Checks.OWNED);
        Checks.due("called owned", desk.set(0, 0, 2), 0);
        desk.method(3, Checks.LENT);
        Checks.due("called lent", desk.set(0, 0, 2), 1);
    }
}

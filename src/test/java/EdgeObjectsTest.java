/** The words OBJECTS, COUNT, LETTING GO and ENDS: each sentence at its edges. */
public final class EdgeObjectsTest {
    private static final int DONE = ArcDesk.DONE, FAILED = ArcDesk.FAILED, LONG = ArcDesk.LONG;

    public static void main(String[] args) {
        numbersAreNotUsedAgain();
        numbersGoFar();
        twentyFourAlive();
        roomAgain();
        whatCounts();
        loansDoNotCount();
        aVariableThatWasLetGoHoldsNothing();
        aFieldThatWasLetGoHoldsNothing();
        loansAreLetGoWithoutCounting();
        endsAtZeroAlone();
        weakFieldsForgetIt();
        weakFieldsOfTheLatestForgetIt();
        otherWeakFieldsDoNot();
        itsWeakFieldIsNotLetGo();
        fieldZeroWithAllThatEndsFirst();
        oneInBothFields();
        oneBelowBothFields();
        allTwentyFourInAChain();
        allTwentyFourInAComb();
        ringsDoNotEnd();
        Checks.finish();
    }

    private static void numbersAreNotUsedAgain() {
        Checks.sentence("OBJECTS have numbers 1, 2, .. as they are made");
        Desk desk = Program.desk("NEW 0 1; NEW 0 2; NEW 0 3; GIVE 0");
        for (int round = 0; round < 2; round++) {
            Checks.dueRun("three", desk, Checks.PLAIN, DONE);
            Checks.dueState("three, plain", desk, 0, 2, 1, 3, 4, 1, 3, 3, 0, -1);
            Checks.dueEnds("three, plain", desk, 1, 2);
            Checks.dueCounts("three, plain", desk, 0, 0, 1, 0);
            Checks.dueRun("three", desk, Checks.SHORT, DONE);
            Checks.dueState("three, short", desk, 0, 2, 0, 2, 4, 1, 3, 3, 0, -1);
            Checks.dueEnds("three, short", desk, 1, 2);
            Checks.dueCounts("three, short", desk, 0, 0, 1, 0);
        }
    }

    private static void numbersGoFar() {
        Checks.sentence("OBJECTS have numbers 1, 2, .. as they are made");
        // 18 times round and 12 more: of 300 instructions 282 make an object.
        Desk desk = Program.desk(Program.times(15, "NEW 0 1") + "; GO 0");
        Checks.dueRun("282", desk, Checks.PLAIN, LONG);
        Checks.dueState("282, plain", desk, 0, 281, 0, 281, 300, 1, 282, 0, 1, 12);
        Checks.due("282, plain: the last", desk.count(282), 1);
        Checks.due("282, plain: the one before", desk.count(281), 0);
        Checks.due("282, plain: none behind", desk.count(283), 0);
        Checks.due("282, plain: ended(280)", desk.ended(280), 281);
        Checks.due("282, plain: ended(281)", desk.ended(281), 0);
        Checks.dueRun("282", desk, Checks.SHORT, LONG);
        Checks.dueState("282, short", desk, 0, 282, 0, 282, 300, 0, 282, 0, 1, 12);
        Checks.due("282, short: the last", desk.count(282), 0);
        Checks.due("282, short: ended(281)", desk.ended(281), 282);
    }

    /**
     * Eight instructions leave 24 objects: 1 to 23 in a chain of fields 0, with 23 in variable 5, and 24 with
     * the int 7 in variable 0. Then come more.
     */
    static Desk full(String more) {
        String link = "NEW 1 0; PUT 1 0 0; COPY 0 1";
        return Program.desk(Program.times(4, "CALL 5 5 1") + "; " + Program.times(3, "CALL 5 5 2") + "; NEW 0 7; " + more,
                Program.times(5, link) + "; GIVE 0", "NEW 1 0; PUT 1 0 0; GIVE 1");
    }

    private static void twentyFourAlive() {
        Checks.sentence("at most 24 are ALIVE");
        for (boolean isShort : Checks.BOTH) {
            Desk all = full("PUT 0 5 1; GIVE 0");
            Checks.dueRun("24", all, isShort, DONE);
            Checks.due("24: alive", all.state(5), 24);
            Checks.due("24: made", all.state(6), 24);
            Checks.due("24: given", all.state(7), 24);
            Checks.dueEnds("24", all);
            Checks.due("24: count(1)", all.count(1), 1);
            Checks.due("24: count(24)", all.count(24), 1);
            Desk more = full("NEW 1 0; OUT 0; OUT 5");
            Checks.dueRun("25", more, isShort, FAILED);
            Checks.due("25: alive", more.state(5), 24);
            Checks.due("25: made", more.state(6), 24);
            Checks.due("25: begun", more.state(4), 82);
            Checks.due("25: where", more.state(9), 8);
            Checks.due("25: none is there", more.count(25), 0);
        }
    }

    private static void roomAgain() {
        Checks.sentence("at most 24 are ALIVE");
        for (boolean isShort : Checks.BOTH) {
            Desk desk = full("NONE 0; NEW 1 0; PUT 1 5 0; GIVE 1");
            Checks.dueRun("one ended", desk, isShort, DONE);
            Checks.dueEnds("one ended", desk, 24);
            Checks.due("one ended: alive", desk.state(5), 24);
            Checks.due("one ended: made", desk.state(6), 25);
            Checks.due("one ended: given", desk.state(7), 25);
        }
    }

    private static void whatCounts() {
        Checks.sentence("in FIELDS 0 and 1, and in VARIABLES that do not have it on LOAN. FIELD 2 is WEAK and does not count.");
        Desk desk = Program.desk("NEW 0 1; NEW 1 2; PUT 1 0 0; PUT 1 0 1; PUT 1 0 2; COPY 2 0; ADD 5 0; OUT 0; OUT 1; OUT 2");
        for (boolean isShort : Checks.BOTH) {
            Checks.dueRun("all kinds", desk, isShort, FAILED);
            Checks.dueCounts("all kinds", desk, 4, 1);
            Checks.dueState("all kinds", desk, 0, 0, 3, 0, 7, 2, 2, 0, 1, 6);
        }
        Program.lay(desk, 0, "NEW 0 1; NEW 1 2; PUT 1 0 2; ADD 5 0; OUT 1; OUT 0");
        for (boolean isShort : Checks.BOTH) {
            Checks.dueRun("weak alone", desk, isShort, FAILED);
            Checks.dueCounts("weak alone", desk, 1, 1);
            Checks.dueFields("weak alone", desk, 2, 0, 0, 1);
        }
    }

    private static void loansDoNotCount() {
        Checks.sentence("in VARIABLES that do not have it on LOAN");
        Desk desk = Program.desk("NEW 0 1; NEW 1 2; PUT 0 1 0; GET 2 0 0; ADD 5 0; OUT 2; OUT 5; OUT 0");
        Checks.due("it is a loan", desk.plan(0, 3), 1);
        Checks.dueRun("field", desk, Checks.PLAIN, FAILED);
        Checks.dueCounts("field, plain", desk, 1, 3);
        Checks.dueRun("field", desk, Checks.SHORT, FAILED);
        Checks.dueCounts("field, short", desk, 1, 1);
        Desk call = Program.desk("NEW 0 1; CALL 1 0 1; OUT 0", "LENT: ADD 1 0; OUT 0");
        Checks.dueRun("call", call, Checks.PLAIN, FAILED);
        Checks.dueCounts("call, plain", call, 2);
        Checks.dueRun("call", call, Checks.SHORT, FAILED);
        Checks.dueCounts("call, short", call, 1);
    }

    private static void aVariableThatWasLetGoHoldsNothing() {
        Checks.sentence("LETTING GO of what a FIELD 0, 1 or a VARIABLE holds (then nothing) makes the COUNT one less");
        // In a SHORT run variable 1 is let go in front of the second OUT, and not again at the end.
        Desk desk = Program.desk("NEW 0 1; NEW 1 2; PUT 0 1 0; OUT 1; OUT 0; GIVE 0");
        Checks.dueRun("once", desk, Checks.PLAIN, DONE);
        Checks.dueState("once, plain", desk, 2, 0, 2, 2, 6, 2, 2, 1, 0, -1);
        Checks.dueCounts("once, plain", desk, 1, 1);
        Checks.dueRun("once", desk, Checks.SHORT, DONE);
        Checks.dueState("once, short", desk, 2, 0, 1, 1, 6, 2, 2, 1, 0, -1);
        Checks.dueCounts("once, short", desk, 1, 1);
    }

    private static void aFieldThatWasLetGoHoldsNothing() {
        Checks.sentence("LETTING GO of what a FIELD 0, 1 or a VARIABLE holds (then nothing) makes the COUNT one less");
        for (int f = 0; f < 2; f++) {
            Desk desk = Program.desk("NEW 0 1; NEW 1 2; PUT 0 1 " + f + "; NONE 1; PUT 0 1 " + f + "; PUT 0 1 " + f + "; GIVE 0");
            Checks.dueRun("field " + f, desk, Checks.PLAIN, DONE);
            Checks.dueState("field, plain", desk, 0, 1, 2, 3, 7, 1, 2, 1, 0, -1);
            Checks.dueEnds("field, plain", desk, 2);
            Checks.dueFields("field, plain", desk, 1, 0, 0, 0);
            Checks.dueRun("field " + f, desk, Checks.SHORT, DONE);
            Checks.dueState("field, short", desk, 0, 1, 0, 1, 7, 1, 2, 1, 0, -1);
            Checks.dueEnds("field, short", desk, 2);
            Checks.dueFields("field, short", desk, 1, 0, 0, 0);
        }
    }

    private static void loansAreLetGoWithoutCounting() {
        Checks.sentence("makes the COUNT one less, unless it is on LOAN");
        Desk desk = Program.desk("NEW 0 1; CALL 1 0 1; GIVE 0", "LENT: OUT 0; OUT 1");
        Checks.dueRun("lent", desk, Checks.PLAIN, DONE);
        Checks.dueState("lent, plain", desk, 2, 0, 2, 2, 5, 1, 1, 1, 0, -1);
        Checks.dueRun("lent", desk, Checks.SHORT, DONE);
        Checks.dueState("lent, short", desk, 2, 0, 0, 0, 5, 1, 1, 1, 0, -1);
        Checks.dueCounts("lent, short", desk, 1);
        // Let go by what the variable gets instead, and before a first instruction that does not need it.
        Program.lay(desk, 1, "LENT: NEW 0 2; OUT 0");
        Checks.dueRun("not needed", desk, Checks.SHORT, DONE);
        Checks.dueState("not needed, short", desk, 1, 1, 0, 1, 5, 1, 2, 1, 0, -1);
        Checks.dueEnds("not needed, short", desk, 2);
        Program.lay(desk, 1, "LENT: OWN 0; OUT 0");
        Checks.dueRun("replaced", desk, Checks.SHORT, DONE);
        Checks.dueState("replaced, short", desk, 1, 1, 0, 1, 5, 1, 2, 1, 0, -1);
        Checks.dueEnds("replaced, short", desk, 2);
    }

    private static void endsAtZeroAlone() {
        Checks.sentence("if it is 0 then the object ENDS: it is not ALIVE any more");
        Desk desk = Program.desk("NEW 0 1; COPY 1 0; OUT 0; NONE 0; OUT 1; NONE 1; OUT 1; NEW 2 5; GIVE 2");
        for (boolean isShort : Checks.BOTH) {
            Checks.dueRun("two references", desk, isShort, DONE);
            Checks.dueOuts("two references", desk, 1, 1, 0);
            Checks.dueEnds("two references", desk, 1);
            Checks.due("two references: alive", desk.state(5), 1);
            Checks.dueCounts("two references", desk, 0, 1);
        }
    }

    private static void weakFieldsForgetIt() {
        Checks.sentence("FIELDS 2 that hold it hold nothing");
        // Its own, that of an object in a variable, and that of one in a field.
        Desk desk = Program.desk("NEW 0 1; NEW 1 2; NEW 2 3; PUT 0 2 2; PUT 1 2 2; PUT 2 2 2; PUT 0 1 0; NONE 1; NONE 2; "
                + "GET 3 0 2; OUT 3; GIVE 0");
        for (boolean isShort : Checks.BOTH) {
            Checks.dueRun("three weak", desk, isShort, DONE);
            Checks.dueEnds("three weak", desk, 3);
            Checks.dueOuts("three weak", desk, 0);
            Checks.dueFields("three weak", desk, 1, 2, 0, 0);
            Checks.dueFields("three weak", desk, 2, 0, 0, 0);
            Checks.dueFields("three weak", desk, 3, 0, 0, 0);
        }
    }

    private static void weakFieldsOfTheLatestForgetIt() {
        Checks.sentence("FIELDS 2 that hold it hold nothing");
        Desk desk = Program.desk("NEW 0 1; NEW 1 2; PUT 1 0 2; NONE 0; GIVE 1", "NEW 0 1; NEW 0 2; NEW 0 3; NEW 1 4; PUT 1 0 2; NONE 0; GIVE 1");
        for (boolean isShort : Checks.BOTH) {
            Checks.dueRun("of the latest", desk, isShort, DONE);
            Checks.dueEnds("of the latest", desk, 1);
            Checks.dueFields("of the latest", desk, 2, 0, 0, 0);
            Checks.due("when few are alive", desk.run(isShort, 1), DONE);
            Checks.dueEnds("when few are alive", desk, 1, 2, 3);
            Checks.dueFields("when few are alive", desk, 4, 0, 0, 0);
        }
    }

    private static void otherWeakFieldsDoNot() {
        Checks.sentence("FIELDS 2 that hold it hold nothing");
        Desk desk = Program.desk("NEW 0 1; NEW 1 2; PUT 1 0 2; NEW 2 3; NONE 2; PUT 0 1 0; GIVE 0");
        for (boolean isShort : Checks.BOTH) {
            Checks.dueRun("of others", desk, isShort, DONE);
            Checks.dueEnds("of others", desk, 3);
            Checks.dueFields("of others", desk, 1, 2, 0, 0);
            Checks.dueFields("of others", desk, 2, 0, 0, 1);
        }
    }

    private static void itsWeakFieldIsNotLetGo() {
        Checks.sentence("its FIELD 0 is LET GO, with all that ENDS by that, then its FIELD 1");
        Desk desk = Program.desk("NEW 0 1; NEW 1 2; PUT 0 1 2; NONE 0; GIVE 1");
        for (boolean isShort : Checks.BOTH) {
            Checks.dueRun("weak", desk, isShort, DONE);
            Checks.dueEnds("weak", desk, 1);
            Checks.dueCounts("weak", desk, 0, 1);
            Checks.due("weak: became less", desk.state(3), isShort ? 1 : 2);
        }
    }

    private static void fieldZeroWithAllThatEndsFirst() {
        Checks.sentence("its FIELD 0 is LET GO, with all that ENDS by that, then its FIELD 1");
        // 1 has 2 and 3, 2 has 4 and 5, 3 has 6 in its field 1.
        Desk desk = Program.desk("CALL 0 0 1; NONE 0; END",
                "NEW 0 1; NEW 1 2; NEW 2 3; NEW 3 4; NEW 4 5; NEW 5 6; PUT 0 1 0; PUT 0 2 1; PUT 1 3 0; PUT 1 4 1; "
                + "PUT 2 5 1; GIVE 0");
        for (boolean isShort : Checks.BOTH) {
            Checks.dueRun("tree", desk, isShort, DONE);
            Checks.dueEnds("tree", desk, 1, 2, 4, 5, 3, 6);
        }
    }

    private static void oneInBothFields() {
        Checks.sentence("its FIELD 0 is LET GO, with all that ENDS by that, then its FIELD 1");
        Desk desk = Program.desk("NEW 0 1; NEW 1 2; PUT 0 1 0; PUT 0 1 1; NONE 1; NONE 0; END");
        Checks.dueRun("in both", desk, Checks.PLAIN, DONE);
        Checks.dueEnds("in both, plain", desk, 1, 2);
        Checks.dueState("in both, plain", desk, 0, 2, 2, 4, 7, 0, 2, 0, 0, -1);
        Checks.dueRun("in both", desk, Checks.SHORT, DONE);
        Checks.dueEnds("in both, short", desk, 1, 2);
        Checks.dueState("in both, short", desk, 0, 2, 1, 3, 7, 0, 2, 0, 0, -1);
    }

    private static void oneBelowBothFields() {
        Checks.sentence("its FIELD 0 is LET GO, with all that ENDS by that, then its FIELD 1");
        // 2 and 3, which are in 1, both have 4: it ends with the second.
        Desk desk = Program.desk("CALL 0 0 1; NONE 0; END",
                "NEW 0 1; NEW 1 2; NEW 2 3; NEW 3 4; PUT 1 3 1; PUT 2 3 0; PUT 0 1 0; PUT 0 2 1; GIVE 0");
        for (boolean isShort : Checks.BOTH) {
            Checks.dueRun("below both", desk, isShort, DONE);
            Checks.dueEnds("below both", desk, 1, 2, 3, 4);
        }
    }

    private static void allTwentyFourInAChain() {
        Checks.sentence("its FIELD 0 is LET GO, with all that ENDS by that, then its FIELD 1");
        for (boolean isShort : Checks.BOTH) {
            Desk desk = full("PUT 0 5 1; NONE 5; NONE 0");
            Checks.dueRun("chain", desk, isShort, DONE);
            Checks.due("chain: alive", desk.state(5), 0);
            Checks.due("chain: ended", desk.state(1), 24);
            for (int k = 0; k < 24; k++) {
                Checks.due("chain: ended(" + k + ")", desk.ended(k), 24 - k);
            }
        }
    }

    private static void allTwentyFourInAComb() {
        Checks.sentence("its FIELD 0 is LET GO, with all that ENDS by that, then its FIELD 1");
        // Each odd one has the odd one before it in field 0, and the even one behind it in field 1.
        Desk desk = Program.desk(Program.times(4, "CALL 0 0 1") + "; NONE 0; END",
                Program.times(3, "NEW 1 0; NEW 2 0; PUT 1 0 0; PUT 1 2 1; COPY 0 1") + "; GIVE 0");
        for (boolean isShort : Checks.BOTH) {
            Checks.dueRun("comb", desk, isShort, DONE);
            Checks.due("comb: ended", desk.state(1), 24);
            for (int k = 0; k < 12; k++) {
                Checks.due("comb: ended(" + k + ")", desk.ended(k), 23 - 2 * k);
                Checks.due("comb: ended(" + (12 + k) + ")", desk.ended(12 + k), 2 + 2 * k);
            }
        }
    }

    private static void ringsDoNotEnd() {
        Checks.sentence("if it is 0 then the object ENDS");
        Desk desk = Program.desk("NEW 0 1; PUT 0 0 0; PUT 0 0 1; NEW 1 2; PUT 1 1 2");
        for (boolean isShort : Checks.BOTH) {
            Checks.dueRun("ring", desk, isShort, DONE);
            Checks.dueEnds("ring", desk, 2);
            Checks.dueCounts("ring", desk, 2, 0);
            Checks.dueFields("ring", desk, 1, 1, 1, 0);
        }
    }
}

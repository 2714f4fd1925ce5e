/** Where instructions FAIL, where they just do not, and that what FAILS changes nothing. */
public final class EdgeFailsTest {
    private static final int DONE = ArcDesk.DONE, FAILED = ArcDesk.FAILED;

    public static void main(String[] args) {
        getFindsNothing();
        putFindsNothing();
        addFindsNothing();
        othersTakeNothing();
        newOfTheTwentyFifth();
        ownOfTheTwentyFifth();
        ownThatMakesNoneAtTwentyFour();
        sixCallsNotDone();
        theSeventhCall();
        callsThatAreDoneDoNotCount();
        methodWithoutInstructions();
        failingGetChangesNothing();
        failingPutChangesNothing();
        failingOwnChangesNothing();
        failingCallHandsNothingOver();
        Checks.finish();
    }

    private static void getFindsNothing() {
        Checks.sentence("It FAILS where GET finds nothing in b");
        for (int f = 0; f < 3; f++) {
            for (int a = 0; a < 2; a++) {
                Desk desk = Program.desk("NEW 2 1; GET " + a + " 0 " + f + "; OUT 2");
                for (boolean isShort : Checks.BOTH) {
                    Checks.dueRun("field " + f, desk, isShort, FAILED);
                    Checks.dueState("field " + f, desk, 0, 0, 0, 0, 2, 1, 1, 0, 1, 1);
                }
            }
        }
        Desk empty = Program.desk("NEW 0 1; GET 1 0 0; GET 2 0 1; GET 3 0 2; IFNONE 1 6; OUT 0; OUT 3");
        for (boolean isShort : Checks.BOTH) {
            Checks.dueRun("nothing in a or in the field", empty, isShort, DONE);
            Checks.dueOuts("nothing in a or in the field", empty, 0);
        }
    }

    private static void putFindsNothing() {
        Checks.sentence("It FAILS where PUT finds nothing in a");
        for (int f = 0; f < 3; f++) {
            for (int b = 0; b < 3; b++) {
                Desk desk = Program.desk("NEW 2 1; PUT 0 " + b + " " + f + "; OUT 2");
                for (boolean isShort : Checks.BOTH) {
                    Checks.dueRun("field " + f, desk, isShort, FAILED);
                    Checks.dueState("field " + f, desk, 0, 0, 0, 0, 2, 1, 1, 0, 1, 1);
                }
            }
            Desk empty = Program.desk("NEW 0 1; PUT 0 1 " + f + "; GIVE 0");
            for (boolean isShort : Checks.BOTH) {
                Checks.dueRun("nothing in b", empty, isShort, DONE);
                Checks.dueFields("nothing in b", empty, 1, 0, 0, 0);
            }
        }
    }

    private static void addFindsNothing() {
        Checks.sentence("It FAILS where ADD finds nothing in a");
        for (int c = -1; c < 2; c++) {
            Desk desk = Program.desk("NEW 2 1; NONE 0; ADD 0 " + c + "; OUT 2");
            for (boolean isShort : Checks.BOTH) {
                Checks.dueRun("add " + c, desk, isShort, FAILED);
                Checks.dueState("add " + c, desk, 0, 0, 0, 0, 3, 1, 1, 0, 1, 2);
            }
        }
    }

    private static void othersTakeNothing() {
        Checks.sentence("It FAILS where GET finds nothing in b, PUT, ADD in a");
        Desk desk = Program.desk("OUT 0; ONLY 0; OWN 0; COPY 1 0; NONE 0; CALL 1 0 1; IFNONE 0 8; OUT 0; GIVE 0", "GIVE 0");
        for (boolean isShort : Checks.BOTH) {
            Checks.dueRun("others", desk, isShort, DONE);
            Checks.dueState("others", desk, 2, 0, 0, 0, 9, 0, 0, 0, 0, -1);
        }
    }

    private static void newOfTheTwentyFifth() {
        Checks.sentence("where NEW or OWN would make a 25th object ALIVE");
        for (boolean isShort : Checks.BOTH) {
            Desk last = EdgeObjectsTest.full("OUT 0; OUT 5");
            Checks.dueRun("the 24th", last, isShort, DONE);
            Checks.due("the 24th: made", last.state(6), 24);
        }
        // What NEW takes the place of is let go behind it, and makes no room; in a SHORT run it went before.
        Desk over = EdgeObjectsTest.full("NEW 0 8; OUT 0; OUT 5");
        Checks.dueRun("over the 24th", over, Checks.PLAIN, FAILED);
        Checks.due("over the 24th: where", over.state(9), 8);
        Checks.due("over the 24th: count", over.count(24), 1);
        Checks.dueRun("over the 24th", over, Checks.SHORT, DONE);
        Checks.due("over the 24th: made", over.state(6), 25);
        Checks.dueOuts("over the 24th", over, 8, 0);
    }

    private static void ownOfTheTwentyFifth() {
        Checks.sentence("where NEW or OWN would make a 25th object ALIVE");
        for (boolean isShort : Checks.BOTH) {
            Desk desk = EdgeObjectsTest.full("COPY 1 0; OWN 1; OUT 0; OUT 5");
            Checks.dueRun("own", desk, isShort, FAILED);
            Checks.due("own: where", desk.state(9), 9);
            Checks.due("own: alive", desk.state(5), 24);
            Checks.due("own: made", desk.state(6), 24);
            // One less is alive: then OWN makes the 24th.
            Desk room = EdgeObjectsTest.full("NONE 0; COPY 1 5; OWN 1; PUT 1 5 1; GIVE 1");
            Checks.dueRun("own with room", room, isShort, DONE);
            Checks.due("own with room: alive", room.state(5), 24);
            Checks.due("own with room: given", room.state(7), 25);
            Checks.dueFields("own with room", room, 25, 22, 23, 0);
        }
    }

    private static void ownThatMakesNoneAtTwentyFour() {
        Checks.sentence("where NEW or OWN would make a 25th object ALIVE");
        for (boolean isShort : Checks.BOTH) {
            Desk desk = EdgeObjectsTest.full("OWN 0; OWN 1; ONLY 0; OUT 1; OUT 0; GIVE 5");
            Checks.dueRun("own of one's own and of nothing", desk, isShort, DONE);
            Checks.dueOuts("own of one's own and of nothing", desk, 1, 0, 7);
            Checks.due("own of one's own and of nothing: made", desk.state(6), 24);
        }
    }

    /** Methods 1, 2, 3 call each other in a ring, so that 0, 1, 2, 3, 1, 2 are the first six. */
    private static Desk ring(String first) {
        return Program.desk(first + "; CALL 0 0 1; OUT 0", "CALL 0 0 2; OUT 0", "CALL 0 0 3; OUT 0", "CALL 0 0 1; OUT 0");
    }

    private static void sixCallsNotDone() {
        Checks.sentence("where a CALL would be the seventh that is not done (the first METHOD counts as one)");
        // Each call takes one from the list of four that it is called with: the sixth finds nothing.
        String link = "NEW 1 0; PUT 1 0 0; COPY 0 1";
        Desk desk = Program.desk("NEW 0 0; " + Program.times(3, link) + "; CALL 1 0 1; GIVE 0",
                "IFNONE 0 4; GET 0 0 0; CALL 1 0 1; END; OUT 0");
        for (boolean isShort : Checks.BOTH) {
            Checks.dueRun("six", desk, isShort, DONE);
            Checks.dueOuts("six", desk, 0);
            Checks.due("six: not done", desk.state(8), 0);
            // 10 make the list; 1 and four times 4 call, IFNONE and OUT are done in the sixth, then GIVE.
            Checks.due("six: begun", desk.state(4), 10 + 1 + 16 + 2 + 1);
        }
    }

    private static void theSeventhCall() {
        Checks.sentence("where a CALL would be the seventh that is not done (the first METHOD counts as one)");
        Desk desk = ring("NONE 0");
        for (boolean isShort : Checks.BOTH) {
            Checks.dueRun("seventh", desk, isShort, FAILED);
            Checks.dueState("seventh", desk, 0, 0, 0, 0, 7, 0, 0, 0, 6, 32);
        }
        // The first method counts, whichever it is: 3, 1, 2, 3, 1, 2.
        Checks.due("from method 3", desk.run(Checks.SHORT, 3), FAILED);
        Checks.dueState("from method 3", desk, 0, 0, 0, 0, 6, 0, 0, 0, 6, 32);
    }

    private static void callsThatAreDoneDoNotCount() {
        Checks.sentence("where a CALL would be the seventh that is not done");
        Desk desk = Program.desk(Program.times(16, "CALL 1 0 1"), "OUT 0; END");
        for (boolean isShort : Checks.BOTH) {
            Checks.dueRun("sixteen", desk, isShort, DONE);
            Checks.dueState("sixteen", desk, 16, 0, 0, 0, 48, 0, 0, 0, 0, -1);
        }
    }

    private static void methodWithoutInstructions() {
        Checks.sentence("where the METHOD has no instructions");
        for (String lent : new String[] {"", "LENT: "}) {
            Desk desk = Program.desk("NEW 0 1; CALL 1 0 2; OUT 0", "OUT 0", lent);
            for (boolean isShort : Checks.BOTH) {
                Checks.dueRun("call", desk, isShort, FAILED);
                Checks.dueState("call", desk, 0, 0, 0, 0, 2, 1, 1, 0, 1, 1);
                Checks.due("run", desk.run(isShort, 2), FAILED);
                Checks.dueState("run", desk, 0, 0, 0, 0, 0, 0, 0, 0, 1, 32);
                Checks.due("run of one with an instruction", desk.run(isShort, 1), DONE);
            }
        }
        // One that was emptied has none either.
        Desk emptied = Program.desk("CALL 1 0 1", "OUT 0");
        Checks.dueRun("before", emptied, Checks.PLAIN, DONE);
        emptied.method(1, Checks.OWNED);
        Checks.dueRun("emptied", emptied, Checks.PLAIN, FAILED);
        Checks.due("emptied: out", emptied.state(0), 0);
    }

    private static void failingGetChangesNothing() {
        Checks.sentence("What FAILS changes nothing");
        Desk desk = Program.desk("NEW 0 1; GET 0 1 0; OUT 0");
        Checks.dueRun("get", desk, Checks.PLAIN, FAILED);
        Checks.dueState("get, plain", desk, 0, 0, 0, 0, 2, 1, 1, 0, 1, 1);
        Checks.dueCounts("get, plain", desk, 1);
        // In a SHORT run variable 0 is not needed in front of the GET, and goes before that fails.
        Checks.dueRun("get", desk, Checks.SHORT, FAILED);
        Checks.dueState("get, short", desk, 0, 1, 0, 1, 2, 0, 1, 0, 1, 1);
    }

    private static void failingPutChangesNothing() {
        Checks.sentence("What FAILS changes nothing");
        for (int f = 0; f < 3; f++) {
            Desk desk = Program.desk("NEW 0 1; PUT 1 0 " + f);
            Checks.due("it would hand over", desk.plan(0, 1), f == 2 ? 0 : 2);
            for (boolean isShort : Checks.BOTH) {
                Checks.dueRun("put", desk, isShort, FAILED);
                Checks.dueState("put", desk, 0, 0, 0, 0, 2, 1, 1, 0, 1, 1);
                Checks.dueCounts("put", desk, 1);
            }
        }
    }

    private static void failingOwnChangesNothing() {
        Checks.sentence("What FAILS changes nothing");
        for (boolean isShort : Checks.BOTH) {
            Desk desk = EdgeObjectsTest.full("PUT 0 5 0; PUT 0 5 1; COPY 1 0; OWN 1; OUT 0; OUT 1; OUT 5");
            Checks.dueRun("own", desk, isShort, FAILED);
            Checks.due("own: where", desk.state(9), 11);
            Checks.due("own: count(24)", desk.count(24), 2);
            Checks.due("own: count(23)", desk.count(23), 3);
            Checks.due("own: count(25)", desk.count(25), 0);
            Checks.dueFields("own", desk, 24, 23, 23, 0);
        }
    }

    private static void failingCallHandsNothingOver() {
        Checks.sentence("What FAILS changes nothing (a CALL hands nothing over).");
        for (String call : new String[] {"CALL 1 0 3", "CALL 0 0 3"}) {
            Desk desk = Program.desk("NEW 0 1; NEW 1 2; PUT 0 1 1; " + call);
            Checks.due("it would hand over", desk.plan(0, 3), 2);
            Checks.dueRun(call, desk, Checks.SHORT, FAILED);
            Checks.dueState(call, desk, 0, 0, 0, 0, 4, 2, 2, 0, 1, 3);
            Checks.dueCounts(call, desk, 1, 1);
            Checks.dueRun(call, desk, Checks.PLAIN, FAILED);
            Checks.dueState(call, desk, 0, 0, 1, 0, 4, 2, 2, 0, 1, 3);
            Checks.dueCounts(call, desk, 1, 2);
        }
        Desk seventh = ring("NEW 0 4");
        Checks.due("it would hand over", seventh.plan(2, 0), 2);
        Checks.dueRun("seventh", seventh, Checks.SHORT, FAILED);
        Checks.dueState("seventh", seventh, 0, 0, 0, 0, 7, 1, 1, 0, 6, 32);
        Checks.dueCounts("seventh", seventh, 1);
        Checks.dueRun("seventh", seventh, Checks.PLAIN, FAILED);
        Checks.dueState("seventh", seventh, 0, 0, 5, 0, 7, 1, 1, 0, 6, 32);
        Checks.dueCounts("seventh", seventh, 6);
    }
}

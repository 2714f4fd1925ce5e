/** The words METHODS and INSTRUCTIONS: each sentence at its edges, but for where they fail. */
public final class EdgeInstructionsTest {
    private static final int DONE = ArcDesk.DONE, FAILED = ArcDesk.FAILED, LONG = ArcDesk.LONG;
    private static final int LEAST = Integer.MIN_VALUE, MOST = Integer.MAX_VALUE;

    public static void main(String[] args) {
        sixteenInEachMethod();
        ownVariables();
        ownVariablesOfTheSameMethod();
        variablesOfAStoppedRunAreGone();
        newHasNothingInFields();
        newHasNothingWhenOthersEnded();
        newTakesAnyInt();
        copyOfNothing();
        noneOfNothing();
        getOfNothing();
        getOfEachField();
        putIntoTheWeakField();
        outOfNothing();
        addWraps();
        onlyAtOneAndNotOnLoan();
        ownOfNothing();
        ownOfWhatIsOnlyIts();
        ownOfWhatIsShared();
        ownTakesTheFields();
        ownLeavesOtherFieldsAlone();
        ownOfARing();
        ifNoneBothWays();
        jumpsToThemselves();
        jumpsToTheSixteenth();
        jumpsBehindTheLast();
        callWithNothing();
        callThatGivesNothing();
        giveEndsOneMethod();
        countedFirst();
        behindTheLast();
        sixBehindTheLastAtOnce();
        Checks.finish();
    }

    private static void sixteenInEachMethod() {
        Checks.sentence("METHODS 0..3 have up to 16 INSTRUCTIONS each (op, a, b, c), numbered from 0");
        for (int m = 0; m < 4; m++) {
            Desk desk = new Desk();
            Program.lay(desk, m, Program.times(16, "OUT 0"));
            Checks.due("all: run", desk.run(Checks.PLAIN, m), DONE);
            Checks.dueState("all", desk, 16, 0, 0, 0, 16, 0, 0, 0, 0, -1);
            Program.lay(desk, m, Program.times(15, "NONE 1") + "; ADD 0 1");
            Checks.due("the last fails: run", desk.run(Checks.SHORT, m), FAILED);
            Checks.dueState("the last fails", desk, 0, 0, 0, 0, 16, 0, 0, 0, 1, 16 * m + 15);
            Program.lay(desk, m, "ADD 0 1");
            Checks.due("the first fails: run", desk.run(Checks.SHORT, m), FAILED);
            Checks.dueState("the first fails", desk, 0, 0, 0, 0, 1, 0, 0, 0, 1, 16 * m);
        }
    }

    private static void ownVariables() {
        Checks.sentence("Each CALL of a METHOD has its own VARIABLES 0..5, with nothing at first, but what it is called with in VARIABLE 0.");
        Desk desk = Program.desk("NEW 0 1; NEW 1 2; NEW 5 3; CALL 4 1 1; CALL 4 1 1; OUT 0; OUT 1; OUT 5",
                "OUT 0; OUT 1; OUT 2; OUT 3; OUT 4; OUT 5; NEW 1 7; NEW 5 8; NONE 0; OUT 1; OUT 5");
        for (boolean isShort : Checks.BOTH) {
            Checks.dueRun("own", desk, isShort, DONE);
            Checks.dueOuts("own", desk, 2, 0, 0, 0, 0, 0, 7, 8, 2, 0, 0, 0, 0, 0, 7, 8, 1, 2, 3);
        }
    }

    private static void ownVariablesOfTheSameMethod() {
        Checks.sentence("Each CALL of a METHOD has its own VARIABLES 0..5");
        Desk desk = Program.desk("NEW 0 3; CALL 5 0 1", "IFNONE 0 6; NEW 1 4; CALL 2 3 1; OUT 1; OUT 0; END; OUT 1; NEW 1 8; OUT 1");
        for (boolean isShort : Checks.BOTH) {
            Checks.dueRun("calls itself", desk, isShort, DONE);
            Checks.dueOuts("calls itself", desk, 0, 8, 4, 3);
        }
    }

    private static void variablesOfAStoppedRunAreGone() {
        Checks.sentence("with nothing at first, but what it is called with in VARIABLE 0");
        Desk desk = Program.desk("NEW 0 1; NEW 5 2; CALL 1 0 1; OUT 5; OUT 0", "NEW 3 4; NEW 5 6; ADD 4 0; OUT 0; OUT 3; OUT 5",
                "CALL 1 2 3; OUT 0; OUT 5", "OUT 0; OUT 3; OUT 5");
        for (boolean isShort : Checks.BOTH) {
            Checks.dueRun("stopped", desk, isShort, FAILED);
            Checks.due("stopped: not done", desk.state(8), 2);
            Checks.due("another", desk.run(isShort, 2), DONE);
            Checks.dueOuts("another", desk, 0, 0, 0, 0, 0);
            Checks.dueState("another", desk, 5, 0, 0, 0, 6, 0, 0, 0, 0, -1);
        }
    }

    private static void newHasNothingInFields() {
        Checks.sentence("NEW a c: a gets a new object with the int c, nothing in FIELDS");
        Desk desk = Program.desk("NEW 0 1; NEW 1 2; PUT 0 1 0; PUT 0 1 1; PUT 0 1 2; GIVE 0", "NEW 0 9; OUT 0; GIVE 0");
        for (boolean isShort : Checks.BOTH) {
            Checks.dueRun("filled", desk, isShort, DONE);
            Checks.dueFields("filled", desk, 1, 2, 2, 2);
            Checks.due("new", desk.run(isShort, 1), DONE);
            Checks.dueFields("new", desk, 1, 0, 0, 0);
            Checks.dueOuts("new", desk, 9);
            Checks.dueCounts("new", desk, 1, 0);
        }
    }

    private static void newHasNothingWhenOthersEnded() {
        Checks.sentence("NEW a c: a gets a new object with the int c, nothing in FIELDS");
        // The third object has fields in the first run, and other numbers than how many are alive in the second.
        Desk desk = Program.desk("NEW 0 1; NEW 1 2; NEW 2 3; PUT 2 0 0; PUT 2 1 1; PUT 2 2 2; GIVE 2", "NEW 0 1; NEW 0 2; NEW 0 9; GIVE 0",
                "NEW 0 1; NEW 1 2; NONE 0; PUT 1 1 0; NEW 2 3; GIVE 1");
        for (boolean isShort : Checks.BOTH) {
            Checks.dueRun("filled", desk, isShort, DONE);
            Checks.dueFields("filled", desk, 3, 1, 2, 3);
            Checks.due("new", desk.run(isShort, 1), DONE);
            Checks.dueFields("new", desk, 3, 0, 0, 0);
            Checks.due("others keep theirs", desk.run(isShort, 2), DONE);
            Checks.dueFields("others keep theirs", desk, 2, 2, 0, 0);
        }
    }

    private static void newTakesAnyInt() {
        Checks.sentence("NEW a c: a gets a new object with the int c");
        for (int c : new int[] {0, -1, LEAST, MOST}) {
            Desk desk = Program.desk("NEW 5 " + c + "; OUT 5");
            Checks.dueRun("int " + c, desk, Checks.SHORT, DONE);
            Checks.dueOuts("int " + c, desk, c);
        }
    }

    private static void copyOfNothing() {
        Checks.sentence("COPY a b: a gets what b holds");
        Desk desk = Program.desk("NEW 0 1; OUT 0; COPY 0 1; OUT 0; COPY 0 0; OUT 0");
        for (boolean isShort : Checks.BOTH) {
            Checks.dueRun("nothing", desk, isShort, DONE);
            Checks.dueOuts("nothing", desk, 1, 0, 0);
            Checks.dueState("nothing", desk, 3, 1, 0, 1, 6, 0, 1, 0, 0, -1);
        }
    }

    private static void noneOfNothing() {
        Checks.sentence("NONE a: a gets nothing");
        Desk desk = Program.desk("NONE 0; OUT 0; NEW 0 5; OUT 0; NONE 0; OUT 0; NONE 0; OUT 0");
        for (boolean isShort : Checks.BOTH) {
            Checks.dueRun("none", desk, isShort, DONE);
            Checks.dueOuts("none", desk, 0, 5, 0, 0);
            Checks.dueState("none", desk, 4, 1, 0, 1, 8, 0, 1, 0, 0, -1);
        }
    }

    private static void getOfNothing() {
        Checks.sentence("GET a b c: a gets what FIELD c of b's object holds");
        for (int f = 0; f < 3; f++) {
            Desk desk = Program.desk("NEW 0 1; NEW 1 2; GET 1 0 " + f + "; OUT 1; OUT 0; GET 0 0 " + f + "; OUT 0");
            for (boolean isShort : Checks.BOTH) {
                Checks.dueRun("field " + f, desk, isShort, DONE);
                Checks.dueOuts("field " + f, desk, 0, 1, 0);
                Checks.dueEnds("field " + f, desk, 2, 1);
                Checks.dueState("field " + f, desk, 3, 2, 0, 2, 7, 0, 2, 0, 0, -1);
            }
        }
    }

    private static void getOfEachField() {
        Checks.sentence("GET a b c: a gets what FIELD c of b's object holds");
        Desk desk = Program.desk("NEW 0 1; NEW 1 2; NEW 2 3; NEW 3 4; PUT 0 1 0; PUT 0 2 1; PUT 0 3 2; GET 4 0 0; OUT 4; "
                + "GET 4 0 1; OUT 4; GET 4 0 2; OUT 4; OUT 3; OUT 0");
        for (boolean isShort : Checks.BOTH) {
            Checks.dueRun("fields", desk, isShort, DONE);
            Checks.dueOuts("fields", desk, 2, 3, 4, 4, 1);
        }
    }

    private static void putIntoTheWeakField() {
        Checks.sentence("PUT a b c: FIELD c of a's object gets what b holds");
        // What the weak field held before is not let go, as it was not counted.
        Desk desk = Program.desk("NEW 0 1; NEW 1 2; NEW 2 3; PUT 0 1 2; PUT 0 2 2; ADD 5 0; OUT 0; OUT 1; OUT 2");
        for (boolean isShort : Checks.BOTH) {
            Checks.dueRun("weak", desk, isShort, FAILED);
            Checks.dueCounts("weak", desk, 1, 1, 1);
            Checks.dueFields("weak", desk, 1, 0, 0, 3);
            Checks.dueState("weak", desk, 0, 0, 0, 0, 6, 3, 3, 0, 1, 5);
        }
        Program.lay(desk, 0, "NEW 0 1; NEW 1 2; PUT 0 1 2; PUT 0 3 2; ADD 5 0; OUT 0; OUT 1");
        for (boolean isShort : Checks.BOTH) {
            Checks.dueRun("nothing into the weak one", desk, isShort, FAILED);
            Checks.dueCounts("nothing into the weak one", desk, 1, 1);
            Checks.dueFields("nothing into the weak one", desk, 1, 0, 0, 0);
        }
    }

    private static void outOfNothing() {
        Checks.sentence("OUT a: the int of a's object is put out, 0 if there is none");
        Desk desk = Program.desk("OUT 0; NEW 0 5; OUT 0; NONE 0; OUT 0; OUT 5");
        for (boolean isShort : Checks.BOTH) {
            Checks.dueRun("out", desk, isShort, DONE);
            Checks.dueOuts("out", desk, 0, 5, 0, 0);
        }
    }

    private static void addWraps() {
        Checks.sentence("ADD a c: the int of a's object grows by c (wraps)");
        int[][] sums = {{MOST, 1, LEAST}, {LEAST, -1, MOST}, {MOST, MOST, -2}, {LEAST, LEAST, 0}, {MOST - 1, 1, MOST},
            {LEAST + 1, -1, LEAST}, {5, 0, 5}, {-1, LEAST, MOST}};
        for (int[] sum : sums) {
            Desk desk = Program.desk("NEW 0 " + sum[0] + "; ADD 0 " + sum[1] + "; OUT 0");
            for (boolean isShort : Checks.BOTH) {
                Checks.dueRun(sum[0] + " and " + sum[1], desk, isShort, DONE);
                Checks.dueOuts(sum[0] + " and " + sum[1], desk, sum[2]);
            }
        }
    }

    private static void onlyAtOneAndNotOnLoan() {
        Checks.sentence("ONLY a: 1 is put out if a's object has the COUNT 1 and a does not have it on LOAN, else 0");
        Desk desk = Program.desk("ONLY 0; NEW 0 9; ONLY 0; COPY 1 0; ONLY 0; OUT 1; NONE 1; ONLY 0; PUT 0 0 2; ONLY 0; "
                + "PUT 0 0 1; ONLY 0");
        for (boolean isShort : Checks.BOTH) {
            Checks.dueRun("counts", desk, isShort, DONE);
            Checks.dueOuts("counts", desk, 0, 1, 0, 9, 1, 1, 0);
        }
        Desk field = Program.desk("NEW 0 1; NEW 1 2; PUT 0 1 0; NONE 1; GET 2 0 0; ONLY 2; NONE 2; GET 0 0 0; ONLY 0");
        for (boolean isShort : Checks.BOTH) {
            // In the PLAIN run the count is 2; in the SHORT one, which hands over, it is 1 behind the last GET.
            Checks.dueRun("of a field", field, isShort, DONE);
            Checks.dueOuts("of a field", field, 0, 1);
        }
        Desk loan = Program.desk("NEW 0 1; NEW 1 2; PUT 0 1 0; GET 2 0 0; ONLY 2; OUT 0; CALL 3 0 1; ONLY 0", "LENT: ONLY 0");
        Checks.due("it is a loan", loan.plan(0, 3), 1);
        Checks.dueRun("on loan", loan, Checks.SHORT, DONE);
        Checks.dueOuts("on loan", loan, 0, 1, 0, 1);
    }

    private static void ownOfNothing() {
        Checks.sentence("OWN a: if ONLY would put out 0, and a holds an object");
        Desk desk = Program.desk("OWN 0; OUT 0; CALL 1 0 1", "LENT: OWN 0; OUT 0");
        for (boolean isShort : Checks.BOTH) {
            Checks.dueRun("nothing", desk, isShort, DONE);
            Checks.dueState("nothing", desk, 2, 0, 0, 0, 5, 0, 0, 0, 0, -1);
        }
    }

    private static void ownOfWhatIsOnlyIts() {
        Checks.sentence("OWN a: if ONLY would put out 0, and a holds an object");
        Desk desk = Program.desk("NEW 0 1; PUT 0 0 2; OWN 0; GIVE 0");
        for (boolean isShort : Checks.BOTH) {
            Checks.dueRun("only its", desk, isShort, DONE);
            Checks.due("only its: made", desk.state(6), 1);
            Checks.due("only its: given", desk.state(7), 1);
            Checks.dueEnds("only its", desk);
        }
    }

    private static void ownOfWhatIsShared() {
        Checks.sentence("a gets a new object with the same int");
        Desk desk = Program.desk("NEW 0 8; COPY 1 0; OWN 0; ONLY 0; ONLY 1; ADD 0 1; OUT 0; OUT 1");
        Checks.dueRun("shared", desk, Checks.PLAIN, DONE);
        Checks.dueOuts("shared, plain", desk, 1, 1, 9, 8);
        Checks.dueState("shared, plain", desk, 4, 2, 1, 3, 8, 0, 2, 0, 0, -1);
        Checks.dueEnds("shared, plain", desk, 2, 1);
        Checks.dueRun("shared", desk, Checks.SHORT, DONE);
        Checks.dueOuts("shared, short", desk, 1, 1, 9, 8);
        Checks.dueState("shared, short", desk, 4, 2, 1, 3, 8, 0, 2, 0, 0, -1);
        Checks.dueEnds("shared, short", desk, 2, 1);
        Desk loan = Program.desk("NEW 0 8; CALL 1 0 1; OUT 0; OUT 1", "LENT: OWN 0; ADD 0 1; GIVE 0");
        Checks.dueRun("on loan", loan, Checks.SHORT, DONE);
        Checks.dueOuts("on loan", loan, 8, 9);
        Checks.dueState("on loan", loan, 2, 2, 0, 2, 7, 0, 2, 0, 0, -1);
    }

    private static void ownTakesTheFields() {
        Checks.sentence("and in FIELDS what that one's FIELDS hold");
        Desk desk = Program.desk("NEW 0 1; NEW 1 2; NEW 2 3; PUT 0 1 0; PUT 0 2 2; COPY 3 0; OWN 3; PUT 0 2 1; ADD 5 0; "
                + "OUT 0; OUT 1; OUT 2; OUT 3");
        for (boolean isShort : Checks.BOTH) {
            Checks.dueRun("fields", desk, isShort, FAILED);
            Checks.dueFields("fields", desk, 4, 2, 0, 3);
            Checks.dueFields("fields", desk, 1, 2, 3, 3);
            Checks.dueCounts("fields", desk, 1, 3, 2, 1);
            Checks.dueState("fields", desk, 0, 0, 4, 1, 9, 4, 4, 0, 1, 8);
        }
    }

    private static void ownLeavesOtherFieldsAlone() {
        Checks.sentence("and in FIELDS what that one's FIELDS hold");
        Desk desk = Program.desk("NEW 0 1; NEW 1 2; NEW 2 3; PUT 0 2 2; COPY 3 1; OWN 3; ADD 5 0; OUT 0; OUT 1; OUT 2; OUT 3");
        for (boolean isShort : Checks.BOTH) {
            Checks.dueRun("others", desk, isShort, FAILED);
            Checks.dueFields("others", desk, 1, 0, 0, 3);
            for (int n = 2; n <= 4; n++) {
                Checks.dueFields("others", desk, n, 0, 0, 0);
            }
            Checks.dueCounts("others", desk, 1, 1, 1, 1);
            Checks.dueState("others", desk, 0, 0, 1, 1, 7, 4, 4, 0, 1, 6);
        }
    }

    private static void ownOfARing() {
        Checks.sentence("the FIELDS of what OWN makes are counted before");
        Desk desk = Program.desk("NEW 0 1; PUT 0 0 0; OWN 0; GIVE 0");
        Checks.dueRun("ring", desk, Checks.PLAIN, DONE);
        Checks.dueState("ring, plain", desk, 0, 0, 3, 2, 4, 2, 2, 2, 0, -1);
        Checks.dueRun("ring", desk, Checks.SHORT, DONE);
        Checks.dueState("ring, short", desk, 0, 0, 2, 1, 4, 2, 2, 2, 0, -1);
        Checks.dueCounts("ring, short", desk, 2, 1);
        Checks.dueFields("ring, short", desk, 2, 1, 0, 0);
    }

    private static void ifNoneBothWays() {
        Checks.sentence("IFNONE a c: on at c if a holds nothing");
        Desk desk = Program.desk("IFNONE 0 2; ADD 5 0; NEW 0 1; IFNONE 0 5; OUT 0; NONE 0; IFNONE 0 8; ADD 5 0; OUT 0");
        for (boolean isShort : Checks.BOTH) {
            Checks.dueRun("ways", desk, isShort, DONE);
            Checks.dueOuts("ways", desk, 1, 0);
            Checks.due("ways: begun", desk.state(4), 7);
        }
        // What is on loan is held, too.
        Desk loan = Program.desk("NEW 0 6; CALL 1 0 1", "LENT: IFNONE 0 2; OUT 0; END");
        Checks.dueRun("loan", loan, Checks.SHORT, DONE);
        Checks.dueOuts("loan", loan, 6);
    }

    private static void jumpsToThemselves() {
        for (String text : new String[] {"IFNONE 0 0", "GO 0", "IFNONE 0 0; OUT 0"}) {
            Checks.sentence(text.startsWith("GO") ? "GO c" : "IFNONE a c: on at c if a holds nothing");
            Desk desk = Program.desk(text);
            for (boolean isShort : Checks.BOTH) {
                Checks.dueRun(text, desk, isShort, LONG);
                Checks.dueState(text, desk, 0, 0, 0, 0, 300, 0, 0, 0, 1, 0);
            }
        }
    }

    private static void jumpsToTheSixteenth() {
        Checks.sentence("GO c");
        Desk desk = Program.desk("NEW 0 1; GO 15; " + Program.times(13, "ADD 5 0") + "; OUT 0");
        for (boolean isShort : Checks.BOTH) {
            Checks.dueRun("go", desk, isShort, DONE);
            Checks.dueState("go", desk, 1, 1, 0, 1, 3, 0, 1, 0, 0, -1);
        }
        Checks.sentence("IFNONE a c: on at c if a holds nothing");
        Program.lay(desk, 0, "NEW 0 1; IFNONE 1 15; " + Program.times(13, "ADD 5 0") + "; OUT 0");
        for (boolean isShort : Checks.BOTH) {
            Checks.dueRun("if none", desk, isShort, DONE);
            Checks.dueState("if none", desk, 1, 1, 0, 1, 3, 0, 1, 0, 0, -1);
        }
    }

    private static void jumpsBehindTheLast() {
        Checks.sentence("Behind the last instruction it goes on as with an END, but none is begun there.");
        for (int c = 3; c < 16; c += 4) {
            for (String jump : new String[] {"GO " + c, "IFNONE 1 " + c}) {
                Desk desk = Program.desk("NEW 0 1; " + jump + "; OUT 0");
                for (boolean isShort : Checks.BOTH) {
                    Checks.dueRun(jump, desk, isShort, DONE);
                    Checks.dueState(jump, desk, 0, 1, 0, 1, 2, 0, 1, 0, 0, -1);
                }
            }
        }
    }

    private static void callWithNothing() {
        Checks.sentence("CALL a b c: METHOD c is called with what b holds; a gets what it GIVES");
        for (String lent : new String[] {"", "LENT: "}) {
            Desk desk = Program.desk("NEW 0 1; CALL 1 2 1; OUT 1; OUT 0", lent + "OUT 0; NEW 3 4; GIVE 3");
            for (boolean isShort : Checks.BOTH) {
                Checks.dueRun("nothing", desk, isShort, DONE);
                Checks.dueOuts("nothing", desk, 0, 4, 1);
                Checks.due("nothing: counted", desk.state(2), isShort ? 0 : 1);
            }
        }
    }

    private static void callThatGivesNothing() {
        Checks.sentence("END: it ends and GIVES nothing (as behind the last instruction)");
        for (String method : new String[] {"OUT 0; END", "OUT 0; GIVE 1", "OUT 0", "OUT 0; GO 9"}) {
            Desk desk = Program.desk("NEW 0 1; OUT 0; CALL 0 1 1; OUT 0", method);
            for (boolean isShort : Checks.BOTH) {
                Checks.dueRun(method, desk, isShort, DONE);
                Checks.dueOuts(method, desk, 1, 0, 0);
                Checks.dueState(method, desk, 3, 1, 0, 1, method.equals("OUT 0") ? 5 : 6, 0, 1, 0, 0, -1);
            }
        }
        for (String method : new String[] {"NEW 0 1; END; GIVE 0", "NEW 0 1; GIVE 1", "NEW 0 1"}) {
            Desk desk = Program.desk(method);
            for (boolean isShort : Checks.BOTH) {
                Checks.dueRun(method, desk, isShort, DONE);
                Checks.due(method + ": given", desk.state(7), 0);
                Checks.dueEnds(method, desk, 1);
            }
        }
    }

    private static void giveEndsOneMethod() {
        Checks.sentence("GIVE a: the METHOD ends and GIVES what a holds");
        Desk desk = Program.desk("CALL 0 0 1; OUT 0; GIVE 0; OUT 0", "CALL 5 0 2; ADD 5 1; GIVE 5; OUT 5", "NEW 3 6; GIVE 3; OUT 3");
        for (boolean isShort : Checks.BOTH) {
            Checks.dueRun("give", desk, isShort, DONE);
            Checks.dueOuts("give", desk, 7);
            Checks.dueState("give", desk, 1, 0, isShort ? 0 : 3, isShort ? 0 : 3, 8, 1, 1, 1, 0, -1);
            Checks.dueCounts("give", desk, 1);
        }
    }

    private static void countedFirst() {
        Checks.sentence("What a VARIABLE or FIELD gets is counted first, then it is there, then what was there before is LET GO.");
        for (boolean isShort : Checks.BOTH) {
            Desk copy = Program.desk("NEW 0 5; COPY 0 0; GIVE 0");
            Checks.dueRun("copy to itself", copy, isShort, DONE);
            Checks.dueState("copy to itself", copy, 0, 0, isShort ? 1 : 2, isShort ? 1 : 2, 3, 1, 1, 1, 0, -1);
            Desk get = Program.desk("NEW 0 1; NEW 1 2; PUT 0 1 1; NONE 1; GET 0 0 1; GIVE 0");
            Checks.dueRun("get from itself", get, isShort, DONE);
            Checks.dueEnds("get from itself", get, 1);
            Checks.due("get from itself: given", get.state(7), 2);
            Checks.dueCounts("get from itself", get, 0, 1);
            for (int f = 0; f < 2; f++) {
                Desk put = Program.desk("NEW 0 1; NEW 1 2; PUT 0 1 " + f + "; NONE 1; CALL 1 0 1; PUT 0 1 " + f + "; GIVE 0",
                        "LENT: GET 0 0 " + f + "; GIVE 0");
                Checks.dueRun("put what is there", put, isShort, DONE);
                Checks.dueEnds("put what is there", put);
                Checks.dueCounts("put what is there", put, 1, 1);
                Checks.due("put what is there: field", put.field(1, f), 2);
            }
        }
    }

    private static void behindTheLast() {
        Checks.sentence("Behind the last instruction it goes on as with an END, but none is begun there.");
        Desk desk = Program.desk("NEW 0 1; CALL 1 0 1", "NEW 1 2");
        for (boolean isShort : Checks.BOTH) {
            Checks.dueRun("behind", desk, isShort, DONE);
            Checks.due("behind: begun", desk.state(4), 3);
            Checks.due("behind: ended", desk.state(1), 2);
            Checks.due("behind: not done", desk.state(8), 0);
            Checks.due("behind: where", desk.state(9), -1);
        }
    }

    private static void sixBehindTheLastAtOnce() {
        Checks.sentence("Behind the last instruction it goes on as with an END, but none is begun there.");
        // Each call takes one from the list of four; the sixth finds nothing, and then all are behind their last.
        Desk desk = Program.desk("NEW 0 0; " + Program.times(3, "NEW 1 0; PUT 1 0 0; COPY 0 1") + "; CALL 1 0 1",
                "IFNONE 0 3; GET 0 0 0; CALL 1 0 1");
        for (boolean isShort : Checks.BOTH) {
            Checks.dueRun("six", desk, isShort, DONE);
            Checks.due("six: begun", desk.state(4), 11 + 4 * 3 + 1);
            Checks.due("six: ended", desk.state(1), 4);
            Checks.due("six: not done", desk.state(8), 0);
            Checks.due("six: where", desk.state(9), -1);
        }
    }
}

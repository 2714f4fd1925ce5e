/** Promises 6 to 12, and the 512 calls: each sentence that names an edge, a wrong input or a refusal. */
public final class EdgeRunsTest {
    private static final int BAD = ArcDesk.BAD, FULL = ArcDesk.FULL;
    private static final int DONE = ArcDesk.DONE, FAILED = ArcDesk.FAILED, LONG = ArcDesk.LONG;
    private static final int LEAST = Integer.MIN_VALUE, MOST = Integer.MAX_VALUE;

    public static void main(String[] args) {
        isDoneAtThreeHundred();
        isLongAtOneMore();
        isLongBeforeItFails();
        failsAtTheThreeHundredth();
        isLongBehindACall();
        isLongBehindAGive();
        allStaysWhenItIsLong();
        allStaysWhenItFails();
        shortHasLetGoBeforeItIsLong();
        whatIsGivenKeepsItsCount();
        runRefuses();
        outInOrder();
        outWhereThereIsNone();
        endedWhereThereIsNone();
        countOfWhatIsNotAlive();
        fieldOfWhatIsNotAlive();
        fieldWhereThereIsNone();
        stateCountsReferences();
        stateCountsWhatBecameLess();
        stateOfWhatWasGiven();
        stateOfCallsNotDone();
        stateOfWhereItStopped();
        stateRefuses();
        addTestsBadBeforeFull();
        refusedAddsChangeNothing();
        setTestsBadBeforeWays();
        fiveHundredAndTwelveCalls();
        Checks.finish();
    }

    /**
     * Method 0 calls method 1 fifteen times, 17 instructions each, then method 2, which calls it twice more: that
     * makes 290. Then come some NONEs, at instruction 2 of method 2 and on, and what is last there.
     */
    private static Desk long300(int nones, String last) {
        String rest = "CALL 5 4 1; CALL 5 4 1; " + Program.times(nones, "NONE 4") + last;
        return Program.desk(Program.times(15, "CALL 5 4 1") + "; CALL 5 0 2", Program.times(16, "NONE 4"), rest);
    }

    private static void isDoneAtThreeHundred() {
        Checks.sentence("LONG if 300 instructions were begun and one more would be");
        for (boolean isShort : Checks.BOTH) {
            Desk less = long300(9, "");
            Checks.dueRun("299", less, isShort, DONE);
            Checks.due("299: begun", less.state(4), 299);
            Desk just = long300(10, "");
            Checks.dueRun("300", just, isShort, DONE);
            Checks.dueState("300", just, 0, 0, 0, 0, 300, 0, 0, 0, 0, -1);
            for (String last : new String[] {"; END", "; GIVE 0", "; GO 15", "; IFNONE 0 13"}) {
                Desk ends = long300(9, last);
                Checks.dueRun("300th is" + last, ends, isShort, DONE);
                Checks.due("300th is" + last + ": begun", ends.state(4), 300);
            }
        }
    }

    private static void isLongAtOneMore() {
        Checks.sentence("LONG if 300 instructions were begun and one more would be");
        for (boolean isShort : Checks.BOTH) {
            for (String last : new String[] {"; OUT 0", "; END", "; GIVE 0", "; GO 15", "; CALL 0 0 1", "; NEW 0 1"}) {
                Desk more = long300(10, last);
                Checks.dueRun("301st is" + last, more, isShort, LONG);
                Checks.dueState("301st is" + last, more, 0, 0, 0, 0, 300, 0, 0, 0, 2, 32 + 12);
            }
        }
    }

    private static void isLongBeforeItFails() {
        Checks.sentence("LONG if 300 instructions were begun and one more would be");
        for (boolean isShort : Checks.BOTH) {
            for (String last : new String[] {"; ADD 0 1", "; GET 1 0 0", "; PUT 0 1 0", "; CALL 1 0 3"}) {
                Desk desk = long300(10, last);
                Checks.dueRun("301st would fail" + last, desk, isShort, LONG);
                Checks.due("301st would fail" + last + ": begun", desk.state(4), 300);
            }
        }
    }

    private static void failsAtTheThreeHundredth() {
        Checks.sentence("state 4: instructions begun");
        for (boolean isShort : Checks.BOTH) {
            for (String last : new String[] {"; ADD 0 1", "; GET 1 0 0", "; PUT 0 1 0", "; CALL 1 0 3"}) {
                Desk desk = long300(9, last);
                Checks.dueRun("300th fails" + last, desk, isShort, FAILED);
                Checks.dueState("300th fails" + last, desk, 0, 0, 0, 0, 300, 0, 0, 0, 2, 32 + 11);
            }
        }
    }

    private static void isLongBehindACall() {
        Checks.sentence("9: 16 times the METHOD, and the instruction, at which it FAILED or would go on");
        // The 300th is a call: what would go on is the method that it calls.
        for (boolean isShort : Checks.BOTH) {
            Desk desk = long300(9, "; CALL 0 0 1; OUT 0");
            Checks.dueRun("call", desk, isShort, LONG);
            Checks.dueState("call", desk, 0, 0, 0, 0, 300, 0, 0, 0, 3, 16);
        }
    }

    private static void isLongBehindAGive() {
        Checks.sentence("9: 16 times the METHOD, and the instruction, at which it FAILED or would go on");
        // The 300th gives, or is the last one of a call: what would go on is the caller.
        for (boolean isShort : Checks.BOTH) {
            for (String last : new String[] {"GIVE 1", "END", "NONE 4", "GO 15"}) {
                Desk desk = Program.desk(Program.times(14, "CALL 5 4 1") + "; CALL 5 0 2; OUT 5", Program.times(16, "NONE 4"),
                        "NEW 1 6; CALL 5 4 1; CALL 5 4 1; CALL 5 4 1; " + Program.times(8, "NONE 4") + "; " + last);
                Checks.dueRun(last, desk, isShort, LONG);
                Checks.due(last + ": begun", desk.state(4), 300);
                Checks.due(last + ": not done", desk.state(8), 1);
                Checks.due(last + ": where", desk.state(9), 15);
                Checks.due(last + ": count(1)", desk.count(1), last.startsWith("GIVE") ? 1 : 0);
            }
        }
    }

    private static void allStaysWhenItIsLong() {
        Checks.sentence("all stays as it is then with both");
        Desk desk = Program.desk("NEW 0 1; NEW 1 2; PUT 0 1 0; CALL 2 0 1; OUT 0; OUT 1", "NEW 3 3; PUT 0 3 1; GO 1");
        Checks.dueRun("long", desk, Checks.PLAIN, LONG);
        Checks.dueState("long, plain", desk, 0, 0, 150, 147, 300, 3, 3, 0, 2, 18);
        Checks.dueCounts("long, plain", desk, 2, 2, 2);
        Checks.dueFields("long, plain", desk, 1, 2, 3, 0);
        Checks.dueRun("long", desk, Checks.SHORT, LONG);
        Checks.dueState("long, short", desk, 0, 0, 150, 147, 300, 3, 3, 0, 2, 18);
        Checks.dueCounts("long, short", desk, 2, 2, 2);
    }

    private static void allStaysWhenItFails() {
        Checks.sentence("all stays as it is then with both");
        Desk desk = Program.desk("NEW 0 1; NEW 1 2; PUT 0 1 0; CALL 2 0 1; OUT 0; OUT 1", "NEW 3 3; PUT 0 3 1; ADD 5 0; OUT 3; OUT 0");
        for (boolean isShort : Checks.BOTH) {
            Checks.dueRun("failed", desk, isShort, FAILED);
            Checks.dueState("failed", desk, 0, 0, 3, 0, 7, 3, 3, 0, 2, 18);
            Checks.dueCounts("failed", desk, 2, 2, 2);
            Checks.dueFields("failed", desk, 1, 2, 3, 0);
        }
    }

    private static void shortHasLetGoBeforeItIsLong() {
        Checks.sentence("SHORT has LET GO what is not NEEDED in front of that one");
        // The 300th reads variable 0 for the last time.
        Desk desk = long300(8, "; NEW 0 7; OUT 0; NEW 1 8; OUT 1");
        Checks.dueRun("long", desk, Checks.SHORT, LONG);
        Checks.dueState("long, short", desk, 1, 1, 0, 1, 300, 0, 1, 0, 2, 44);
        Checks.dueRun("long", desk, Checks.PLAIN, LONG);
        Checks.dueState("long, plain", desk, 1, 0, 0, 0, 300, 1, 1, 0, 2, 44);
        // The 300th calls: what its method does not need goes before the first one there.
        Desk call = long300(8, "; NEW 0 7; CALL 0 0 1; OUT 0");
        Checks.dueRun("call", call, Checks.SHORT, LONG);
        Checks.dueState("call, short", call, 0, 1, 0, 1, 300, 0, 1, 0, 3, 16);
        Checks.dueRun("call", call, Checks.PLAIN, LONG);
        Checks.dueState("call, plain", call, 0, 0, 1, 0, 300, 1, 1, 0, 3, 16);
    }

    private static void whatIsGivenKeepsItsCount() {
        Checks.sentence("DONE: what the METHOD GIVES keeps its COUNT");
        Desk desk = Program.desk("NEW 0 1; NEW 1 2; PUT 0 1 0; PUT 1 0 2; GIVE 0", "NEW 0 1; NEW 1 2; PUT 0 1 0; PUT 1 0 1; GIVE 1");
        for (boolean isShort : Checks.BOTH) {
            Checks.dueRun("once", desk, isShort, DONE);
            Checks.dueCounts("once", desk, 1, 1);
            Checks.due("a field, too", desk.run(isShort, 1), DONE);
            Checks.dueCounts("a field, too", desk, 1, 2);
            Checks.due("a field, too: given", desk.state(7), 2);
        }
    }

    private static void runRefuses() {
        Checks.sentence("BAD, and nothing changes, if m is not 0..3");
        Desk desk = Program.desk("NEW 0 1; NEW 1 2; PUT 0 1 0; OUT 1; CALL 2 0 1", "NEW 1 3; ADD 5 0; OUT 0; OUT 1");
        for (boolean isShort : Checks.BOTH) {
            Checks.dueRun("before", desk, isShort, FAILED);
            int[] before = new int[10];
            for (int what = 0; what < 10; what++) {
                before[what] = desk.state(what);
            }
            for (int m : new int[] {-1, 4, LEAST, MOST}) {
                Checks.due("run " + m, desk.run(Checks.PLAIN, m), BAD);
                Checks.due("run " + m, desk.run(Checks.SHORT, m), BAD);
            }
            Checks.dueState("as before", desk, before);
            Checks.dueState("as before", desk, 1, 0, isShort ? 1 : 2, isShort ? 1 : 0, 7, 3, 3, 0, 2, 17);
            Checks.dueOuts("as before", desk, 2);
            Checks.dueCounts("as before", desk, isShort ? 1 : 2, isShort ? 1 : 2, 1);
            Checks.dueFields("as before", desk, 1, 2, 0, 0);
        }
    }

    private static void outInOrder() {
        Checks.sentence("The k-th int put out in the latest run (0 the first)");
        Desk desk = Program.desk("NEW 0 0; " + Program.times(7, "OUT 0; ADD 0 1") + "; GO 1");
        Checks.dueRun("many", desk, Checks.PLAIN, LONG);
        // 1, then 19 times 15, then 14: 140 ints in all.
        Checks.due("many: state(0)", desk.state(0), 140);
        for (int k = 0; k < 140; k++) {
            Checks.due("many: out(" + k + ")", desk.out(k), k);
        }
        Checks.due("many: none behind", desk.out(140), 0);
        Desk most = Program.desk("NEW 0 7; " + Program.times(14, "OUT 0") + "; GO 1");
        Checks.dueRun("most", most, Checks.SHORT, LONG);
        // 1, then 19 times 15, then 14.
        Checks.due("most: state(0)", most.state(0), 280);
        Checks.due("most: the last", most.out(279), 7);
        Checks.due("most: none behind", most.out(280), 0);
    }

    private static void outWhereThereIsNone() {
        Checks.sentence("out: 0 if there is none");
        Desk desk = Program.desk("NEW 0 9; OUT 0; OUT 0", "NEW 0 8; OUT 0");
        Checks.dueRun("two", desk, Checks.PLAIN, DONE);
        Checks.dueOuts("two", desk, 9, 9);
        for (int k : new int[] {-1, 2, 3, 299, 300, 301, LEAST, MOST}) {
            Checks.due("out(" + k + ")", desk.out(k), 0);
        }
        Checks.due("one", desk.run(Checks.PLAIN, 1), DONE);
        Checks.dueOuts("the latest run alone", desk, 8);
        Checks.due("none", desk.run(Checks.PLAIN, 3), FAILED);
        Checks.dueOuts("the latest run put out nothing", desk);
    }

    private static void endedWhereThereIsNone() {
        Checks.sentence("ended: 0 if there is none");
        Desk desk = Program.desk("NEW 0 9; NEW 0 8; NEW 1 7", "NEW 2 8");
        Checks.dueRun("three", desk, Checks.PLAIN, DONE);
        Checks.dueEnds("three", desk, 1, 2, 3);
        for (int k : new int[] {-1, 3, 4, 299, 300, 301, LEAST, MOST}) {
            Checks.due("ended(" + k + ")", desk.ended(k), 0);
        }
        Checks.due("one", desk.run(Checks.PLAIN, 1), DONE);
        Checks.dueEnds("the latest run alone", desk, 1);
        Checks.due("none", desk.run(Checks.PLAIN, 3), FAILED);
        Checks.dueEnds("none ended in the latest run", desk);
    }

    private static void countOfWhatIsNotAlive() {
        Checks.sentence("count: 0 if it is not ALIVE");
        Desk desk = Program.desk("NEW 0 1; NEW 0 2; NEW 0 3; PUT 0 0 0", "NEW 0 1; NEW 0 2; END");
        Checks.dueRun("the third stays", desk, Checks.PLAIN, DONE);
        Checks.dueCounts("the third stays", desk, 0, 0, 1, 0);
        for (int n : new int[] {-1, 0, 4, 24, 25, 300, 301, 302, LEAST, MOST}) {
            Checks.due("count(" + n + ")", desk.count(n), 0);
        }
        Checks.due("none stays", desk.run(Checks.PLAIN, 1), DONE);
        Checks.dueCounts("that of an earlier run is not there", desk, 0, 0, 0);
    }

    private static void fieldOfWhatIsNotAlive() {
        Checks.sentence("field: 0 if object n is not ALIVE");
        Desk desk = Program.desk("NEW 0 1; NEW 1 2; PUT 0 1 0; PUT 0 1 1; PUT 0 1 2; NONE 0; GIVE 1",
                "NEW 0 1; PUT 0 0 0; PUT 0 0 1; PUT 0 0 2", "END");
        for (boolean isShort : Checks.BOTH) {
            Checks.dueRun("ended", desk, isShort, DONE);
            Checks.dueEnds("ended", desk, 1);
            Checks.dueFields("ended", desk, 1, 0, 0, 0);
            Checks.due("alive", desk.run(isShort, 1), DONE);
            Checks.dueFields("alive", desk, 1, 1, 1, 1);
            for (int n : new int[] {-1, 0, 2, 25, 300, 301, LEAST, MOST}) {
                Checks.dueFields("not made", desk, n, 0, 0, 0);
            }
            Checks.due("another run", desk.run(isShort, 2), DONE);
            Checks.dueFields("that of an earlier run", desk, 1, 0, 0, 0);
        }
    }

    private static void fieldWhereThereIsNone() {
        Checks.sentence("field: 0 if there is none");
        Desk desk = Program.desk("NEW 0 1; NEW 1 2; PUT 0 1 0; PUT 0 1 1; PUT 0 1 2; PUT 1 0 0; PUT 1 0 2; GIVE 0");
        Checks.dueRun("run", desk, Checks.PLAIN, DONE);
        Checks.dueFields("object 1", desk, 1, 2, 2, 2);
        Checks.dueFields("object 2", desk, 2, 1, 0, 1);
        for (int f : new int[] {-3, -2, -1, 3, 4, 5, LEAST, MOST}) {
            Checks.due("field(1, " + f + ")", desk.field(1, f), 0);
            Checks.due("field(2, " + f + ")", desk.field(2, f), 0);
        }
    }

    private static void stateCountsReferences() {
        Checks.sentence("2: how often a reference was counted (not for NEW and what OWN makes)");
        String[] none = {"NEW 0 1; NEW 0 2", "COPY 0 1", "NEW 0 1; PUT 0 1 0", "NEW 0 1; GET 1 0 0", "CALL 1 0 1", "GIVE 0",
            "NEW 0 1; OWN 0", "NEW 0 1; PUT 0 0 2"};
        for (String text : none) {
            Desk desk = Program.desk(text, "END");
            for (boolean isShort : Checks.BOTH) {
                Checks.dueRun(text, desk, isShort, DONE);
                Checks.due(text + ": counted", desk.state(2), 0);
            }
        }
        String[] one = {"NEW 0 1; COPY 1 0", "NEW 0 1; PUT 0 0 0", "NEW 0 1; CALL 1 0 1", "NEW 0 1; GIVE 0", "NEW 0 1; COPY 1 0; OWN 1",
            "NEW 0 1; PUT 0 0 2; GET 1 0 2"};
        for (String text : one) {
            Desk desk = Program.desk(text, "END");
            Checks.dueRun(text, desk, Checks.PLAIN, DONE);
            Checks.due(text + ": counted", desk.state(2), 1);
        }
        // The fields of what OWN makes are counted: two of them.
        Desk own = Program.desk("NEW 0 1; PUT 0 0 0; PUT 0 0 1; PUT 0 0 2; OWN 0; GIVE 0");
        Checks.dueRun("own", own, Checks.SHORT, DONE);
        Checks.due("own: counted", own.state(2), 4);
        Checks.dueCounts("own", own, 4, 1);
    }

    private static void stateCountsWhatBecameLess() {
        Checks.sentence("3: how often a COUNT became one less");
        Desk desk = Program.desk("NONE 0; NEW 0 1; NEW 1 2; PUT 0 1 0; PUT 0 1 2; PUT 0 5 2; NONE 0; NONE 1; NONE 1", "LENT: OUT 0");
        Checks.dueRun("less", desk, Checks.PLAIN, DONE);
        // Object 1, by that object 2 in its field, then object 2 in the variable.
        Checks.due("less, plain", desk.state(3), 3);
        Checks.dueRun("less", desk, Checks.SHORT, DONE);
        Checks.due("less, short", desk.state(3), 3);
        Program.lay(desk, 0, "NEW 0 1; CALL 1 0 1; GIVE 0");
        Checks.dueRun("a loan", desk, Checks.SHORT, DONE);
        Checks.due("a loan goes without", desk.state(3), 0);
        Checks.dueRun("a loan", desk, Checks.PLAIN, DONE);
        Checks.due("plain: in the call, and at the end", desk.state(3), 2);
    }

    private static void stateOfWhatWasGiven() {
        Checks.sentence("7: the number of the object that the first METHOD gave (0 if none)");
        Desk desk = Program.desk("CALL 1 0 1; OUT 1", "NEW 0 1; GIVE 0", "NEW 0 1; CALL 1 0 1; NEW 2 9; GIVE 2", "CALL 1 0 1; ADD 5 0");
        for (boolean isShort : Checks.BOTH) {
            Checks.due("gave", desk.run(isShort, 2), DONE);
            Checks.due("gave the third", desk.state(7), 3);
            Checks.dueRun("another one gave", desk, isShort, DONE);
            Checks.due("another one gave", desk.state(7), 0);
            Checks.due("gave", desk.run(isShort, 1), DONE);
            Checks.due("gave the first", desk.state(7), 1);
            Checks.due("failed", desk.run(isShort, 3), FAILED);
            Checks.due("failed", desk.state(7), 0);
        }
    }

    private static void stateOfCallsNotDone() {
        Checks.sentence("8: CALLS not done yet (the first METHOD counts)");
        Desk desk = Program.desk("CALL 0 0 1; ADD 0 0", "CALL 0 0 2", "CALL 0 0 3", "OUT 0; ADD 0 0");
        Checks.due("none before", desk.state(8), 0);
        for (int m = 0; m < 4; m++) {
            Checks.due("from " + m, desk.run(Checks.SHORT, m), FAILED);
            Checks.due("from " + m, desk.state(8), 4 - m);
            Checks.due("from " + m, desk.state(9), 49);
        }
        Program.lay(desk, 3, "OUT 0");
        Checks.dueRun("calls that are done do not count", desk, Checks.SHORT, FAILED);
        Checks.due("calls that are done do not count", desk.state(8), 1);
        Checks.due("done", desk.run(Checks.SHORT, 1), DONE);
        Checks.due("done", desk.state(8), 0);
    }

    private static void stateOfWhereItStopped() {
        Checks.sentence("-1 if it is DONE, or nothing was run");
        Desk desk = Program.desk("OUT 0", "OUT 0; ADD 0 0", "GO 0");
        Checks.due("nothing was run", desk.state(9), -1);
        Checks.due("refused", desk.run(Checks.PLAIN, 4), BAD);
        Checks.due("refused", desk.state(9), -1);
        Checks.due("failed", desk.run(Checks.PLAIN, 1), FAILED);
        Checks.due("failed", desk.state(9), 17);
        Checks.due("done", desk.run(Checks.PLAIN, 0), DONE);
        Checks.due("done", desk.state(9), -1);
        Checks.due("long", desk.run(Checks.PLAIN, 2), LONG);
        Checks.due("long", desk.state(9), 32);
        Checks.due("empty", desk.run(Checks.PLAIN, 3), FAILED);
        Checks.due("empty", desk.state(9), 48);
    }

    private static void stateRefuses() {
        Checks.sentence("state: BAD for others");
        Desk desk = Program.desk("OUT 0");
        for (int round = 0; round < 2; round++) {
            for (int what : new int[] {-1, 10, 11, LEAST, MOST}) {
                Checks.due("state(" + what + ")", desk.state(what), BAD);
            }
            Checks.dueRun("run", desk, Checks.PLAIN, DONE);
        }
    }

    private static void addTestsBadBeforeFull() {
        Checks.sentence("add tests BAD before FULL");
        Desk desk = Program.desk(Program.times(16, "OUT 0"));
        Checks.due("op", desk.add(0, 14, 0, 0, 0), BAD);
        Checks.due("op", desk.add(0, -1, 0, 0, 0), BAD);
        Checks.due("a", desk.add(0, Checks.NEW, 6, 0, 0), BAD);
        Checks.due("a", desk.add(0, Checks.NEW, -1, 0, 0), BAD);
        Checks.due("b", desk.add(0, Checks.COPY, 0, 6, 0), BAD);
        Checks.due("b", desk.add(0, Checks.CALL, 0, -1, 0), BAD);
        Checks.due("c", desk.add(0, Checks.GET, 0, 0, 3), BAD);
        Checks.due("c", desk.add(0, Checks.GO, 0, 0, 16), BAD);
        Checks.due("c", desk.add(0, Checks.CALL, 0, 0, 4), BAD);
        Checks.due("what is not looked at", desk.add(0, Checks.END, 6, 6, 16), FULL);
        Checks.due("what is not looked at", desk.add(0, Checks.NEW, 5, 6, 16), FULL);
        Checks.due("good", desk.add(0, Checks.CALL, 5, 5, 3), FULL);
    }

    private static void refusedAddsChangeNothing() {
        Checks.sentence("with either nothing changes");
        Desk desk = Program.desk("OUT 1; OUT 2");
        Checks.dueRun("before", desk, Checks.PLAIN, DONE);
        desk.add(0, Checks.OUT, 6, 0, 0);
        desk.add(0, 14, 0, 0, 0);
        Checks.dueState("the latest run", desk, 2, 0, 0, 0, 2, 0, 0, 0, 0, -1);
        Checks.due("it is not there", desk.plan(0, 2), BAD);
        Checks.due("the next is the third", desk.add(0, Checks.OUT, 5, 0, 0), 3);
        Checks.due("all three are needed", desk.set(0, 0, 0), 38);
        for (int i = 3; i < 16; i++) {
            desk.add(0, Checks.OUT, 5, 0, 0);
        }
        Checks.due("full", desk.add(0, Checks.OUT, 0, 0, 0), FULL);
        Checks.due("full", desk.add(0, Checks.PUT, 3, 4, 0), FULL);
        Checks.due("all three are needed", desk.set(0, 0, 0), 38);
        Checks.due("the last is as it was", desk.set(0, 15, 0), 32);
        Checks.due("the next method is as it was", desk.method(1, Checks.OWNED), 0);
        Checks.due("it had", desk.method(0, Checks.OWNED), 16);
    }

    private static void setTestsBadBeforeWays() {
        Checks.sentence("set: BAD is tested before whether a way leads to the instruction");
        Desk desk = Program.desk("END; OUT 0; GO 0; GIVE 0; END; IFNONE 0 0");
        int[][] want = {{0, 0, BAD, BAD}, {1, 0, 0, BAD}, {0, 0, BAD, 0}, {1, 0, BAD, BAD}, {0, 0, BAD, BAD}, {1, 0, 0, 0}};
        for (int i = 0; i < want.length; i++) {
            Checks.dueSets("no way", desk, 0, i, want[i]);
            Checks.due("no way, what 4", desk.set(0, i, 4), BAD);
            Checks.due("no way, what -1", desk.set(0, i, -1), BAD);
        }
        Checks.due("not there", desk.set(0, 6, 1), BAD);
    }

    private static void fiveHundredAndTwelveCalls() {
        Checks.sentence("An object is used for at most 512 calls after it has been made");
        Desk desk = new Desk();
        int laid = 0;
        // 19 calls each time: the program is laid anew and run both ways, up to the last call.
        while (desk.left() > 19) {
            laid++;
            Program.lay(desk, laid % 4, "NEW 0 " + laid + "; NEW 1 2; PUT 0 1 0; OUT 0; GIVE 0");
            for (boolean isShort : Checks.BOTH) {
                Checks.due("run", desk.run(isShort, laid % 4), DONE);
                Checks.due("out", desk.out(0), laid);
                Checks.due("count", desk.count(2), 1);
                Checks.due("field", desk.field(1, 0), 2);
                Checks.due("given", desk.state(7), 1);
                Checks.due("ended", desk.ended(0), 0);
            }
            Checks.due("plan", desk.plan(laid % 4, 2), 2);
        }
        Checks.holds("many times", laid > 20);
        while (desk.left() > 1) {
            Checks.due("run", desk.run(Checks.PLAIN, laid % 4), DONE);
        }
        Checks.due("the 512th", desk.state(2), 2);
        Checks.due("all are used", desk.left(), 0);
    }
}

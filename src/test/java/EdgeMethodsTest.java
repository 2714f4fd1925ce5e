/** Promises 1 to 6, without how runs go on: each sentence that names an edge, a wrong input or a refusal. */
public final class EdgeMethodsTest {
    private static final int BAD = ArcDesk.BAD, FULL = ArcDesk.FULL;
    private static final int DONE = ArcDesk.DONE, FAILED = ArcDesk.FAILED;
    private static final int LEAST = Integer.MIN_VALUE, MOST = Integer.MAX_VALUE;
    private static final String[] NAMES = {"NEW", "COPY", "NONE", "GET", "PUT", "OUT", "ADD", "ONLY", "OWN", "IFNONE",
        "GO", "CALL", "GIVE", "END"};

    public static void main(String[] args) {
        noInstructions();
        allMethodsTakeOwned();
        nothingWasRun();
        methodEmptiesIt();
        methodSaysHowItTakes();
        methodRefuses();
        addCounts();
        addRefusesMethods();
        addRefusesOps();
        addRefusesA();
        addRefusesB();
        addRefusesC();
        addDoesNotLookAtOthers();
        addTakesAnyIntForNewAndAdd();
        addIsFullAtSixteen();
        setRefusesWhatIsNotThere();
        setRefusesOtherWhats();
        setRefusesWhereThereIsNoSuchWay();
        planRefusesWhatIsNotThere();
        planIsZeroForOthers();
        runBeginsWithNoObjects();
        runIsCalledWithNothing();
        runFailsWithoutInstructions();
        Checks.finish();
    }

    /** With c = 1 and all else 0 every op is taken. */
    private static int add(Desk desk, int m, int op) {
        return desk.add(m, op, 0, 0, 1);
    }

    private static void noInstructions() {
        Checks.sentence("No instructions");
        Desk desk = new Desk();
        for (int m = 0; m < 4; m++) {
            Checks.due("plan", desk.plan(m, 0), BAD);
            Checks.due("set", desk.set(m, 0, 0), BAD);
            Checks.due("method", desk.method(m, Checks.OWNED), 0);
            Checks.due("add", add(desk, m, Checks.OUT), 1);
        }
    }

    private static void allMethodsTakeOwned() {
        Checks.sentence("all METHODS take OWNED");
        for (int m = 0; m < 4; m++) {
            Desk fresh = new Desk();
            fresh.add(0, Checks.CALL, 1, 0, m);
            Checks.due("a call of method " + m, fresh.plan(0, 0), 2);
            Desk other = new Desk();
            other.add(m, Checks.OUT, 0, 0, 0);
            Checks.due("method " + m + " keeps variable 0", other.set(m, 0, 1), 1);
        }
    }

    private static void nothingWasRun() {
        Checks.sentence("Nothing was run.");
        Desk desk = new Desk();
        Checks.dueState("new", desk, 0, 0, 0, 0, 0, 0, 0, 0, 0, -1);
        for (int k = -1; k < 3; k++) {
            Checks.due("out", desk.out(k), 0);
            Checks.due("ended", desk.ended(k), 0);
            Checks.due("count", desk.count(k), 0);
            Checks.due("field", desk.field(k, 0), 0);
        }
        // Laying methods and asking of them is no run.
        Program.lay(desk, 0, "NEW 0 1; OUT 0");
        desk.set(0, 0, 1);
        desk.plan(0, 0);
        Checks.due("a refused run", desk.run(Checks.SHORT, 4), BAD);
        Checks.dueState("laid", desk, 0, 0, 0, 0, 0, 0, 0, 0, 0, -1);
    }

    private static void methodEmptiesIt() {
        Checks.sentence("METHOD m has no instructions then, and takes LENT or OWNED: how many it had.");
        for (int had = 0; had <= 16; had++) {
            Desk desk = new Desk();
            for (int i = 0; i < had; i++) {
                add(desk, 3, Checks.OUT);
            }
            Checks.due("had", desk.method(3, Checks.LENT), had);
            Checks.due("has then", desk.method(3, Checks.LENT), 0);
            Checks.due("the first is gone", desk.plan(3, 0), BAD);
            Checks.due("it cannot be run", desk.run(Checks.PLAIN, 3), FAILED);
            Checks.due("the next is the first", add(desk, 3, Checks.OUT), 1);
        }
    }

    private static void methodSaysHowItTakes() {
        Checks.sentence("takes LENT or OWNED");
        Desk desk = new Desk();
        for (int round = 0; round < 4; round++) {
            boolean isLent = round % 2 == 0;
            for (int m = 0; m < 4; m++) {
                desk.method(m, isLent);
                add(desk, m, Checks.OUT);
                Checks.due("method " + m, desk.set(m, 0, 1), isLent ? 0 : 1);
            }
        }
    }

    private static void methodRefuses() {
        Checks.sentence("method: BAD if m is not 0..3");
        Desk desk = Program.desk("OUT 0; OUT 0", "OUT 0", "OUT 0", "OUT 0; OUT 0; OUT 0");
        Checks.dueRun("before", desk, Checks.PLAIN, DONE);
        for (int m : new int[] {-1, 4, 5, 16, LEAST, MOST}) {
            Checks.due("method " + m, desk.method(m, Checks.LENT), BAD);
        }
        Checks.due("the first is still owned", desk.set(0, 0, 1), 1);
        Checks.due("the last is still owned", desk.set(3, 0, 1), 1);
        Checks.due("the run is still there", desk.state(0), 2);
        Checks.due("the first still has two", desk.method(0, Checks.OWNED), 2);
        Checks.due("the last still has three", desk.method(3, Checks.OWNED), 3);
    }

    private static void addCounts() {
        Checks.sentence("A further instruction of METHOD m: how many it has.");
        Desk desk = new Desk();
        for (int i = 1; i <= 16; i++) {
            for (int m = 0; m < 4; m++) {
                Checks.due("add to " + m, add(desk, m, i % 14), i);
            }
        }
    }

    private static void addRefusesMethods() {
        Checks.sentence("add: BAD if m is not 0..3");
        Desk desk = new Desk();
        for (int m : new int[] {-1, 4, 5, LEAST, MOST}) {
            Checks.due("method " + m, add(desk, m, Checks.OUT), BAD);
        }
        for (int m = 0; m < 4; m++) {
            Checks.due("none was added to " + m, desk.method(m, Checks.OWNED), 0);
            Checks.due("method " + m, add(desk, m, Checks.OUT), 1);
        }
    }

    private static void addRefusesOps() {
        Checks.sentence("op not 0..13");
        Desk desk = new Desk();
        for (int op : new int[] {-1, 14, 15, LEAST, MOST}) {
            Checks.due("op " + op, add(desk, 1, op), BAD);
        }
        Checks.due("none was added", desk.method(1, Checks.OWNED), 0);
        for (int op = 0; op < 14; op++) {
            Checks.due("op " + op, add(desk, 1, op), op + 1);
        }
    }

    private static void addRefusesA() {
        Checks.sentence("a not 0..5 (but for GO, END)");
        for (int op = 0; op < 14; op++) {
            boolean looks = op != Checks.GO && op != Checks.END;
            for (int a : new int[] {-1, 6, 7, LEAST, MOST}) {
                Desk desk = new Desk();
                Checks.due(NAMES[op] + " a " + a, desk.add(0, op, a, 0, 0), looks ? BAD : 1);
                Checks.due(NAMES[op] + " a " + a + ": it had", desk.method(0, Checks.OWNED), looks ? 0 : 1);
            }
            Desk desk = new Desk();
            for (int a = 0; a < 6; a++) {
                Checks.due(NAMES[op] + " a " + a, desk.add(0, op, a, 0, 0), a + 1);
            }
        }
    }

    private static void addRefusesB() {
        Checks.sentence("b not 0..5 (COPY, GET, PUT, CALL)");
        for (int op = 0; op < 14; op++) {
            boolean looks = op == Checks.COPY || op == Checks.GET || op == Checks.PUT || op == Checks.CALL;
            for (int b : new int[] {-1, 6, 7, LEAST, MOST}) {
                Desk desk = new Desk();
                Checks.due(NAMES[op] + " b " + b, desk.add(0, op, 0, b, 0), looks ? BAD : 1);
                Checks.due(NAMES[op] + " b " + b + ": it had", desk.method(0, Checks.OWNED), looks ? 0 : 1);
            }
            Desk desk = new Desk();
            for (int b = 0; b < 6; b++) {
                Checks.due(NAMES[op] + " b " + b, desk.add(0, op, 0, b, 0), b + 1);
            }
        }
    }

    private static void addRefusesC() {
        Checks.sentence("or c not 0..2 (GET, PUT), 0..15 (IFNONE, GO) or 0..3 (CALL)");
        int[] looking = {Checks.GET, Checks.PUT, Checks.IFNONE, Checks.GO, Checks.CALL};
        int[] most = {2, 2, 15, 15, 3};
        for (int each = 0; each < looking.length; each++) {
            int op = looking[each];
            for (int c : new int[] {-1, most[each] + 1, LEAST, MOST}) {
                Desk desk = new Desk();
                Checks.due(NAMES[op] + " c " + c, desk.add(0, op, 0, 0, c), BAD);
                Checks.due(NAMES[op] + " c " + c + ": it had", desk.method(0, Checks.OWNED), 0);
            }
            Desk desk = new Desk();
            for (int c = 0; c <= most[each]; c++) {
                Checks.due(NAMES[op] + " c " + c, desk.add(0, op, 0, 0, c), c + 1);
            }
        }
    }

    /** The same method twice, once with 0 and once with odd numbers where nothing is to be looked at. */
    private static void addDoesNotLookAtOthers() {
        Checks.sentence("what is not named is not looked at");
        int[][] code = {{0, 1, 77, 5}, {1, 2, 1, 77}, {2, 3, 77, 77}, {4, 1, 2, 1}, {5, 2, 77, 77}, {7, 1, 77, 77},
            {8, 2, 77, 77}, {9, 3, 77, 9}, {13, 77, 77, 77}, {10, 77, 77, 11}, {13, 77, 77, 77}, {12, 2, 77, 77}};
        for (int odd : new int[] {-1, 6, 16, LEAST, MOST}) {
            Desk even = new Desk();
            Desk strange = new Desk();
            for (int[] it : code) {
                even.add(0, it[0], it[1] == 77 ? 0 : it[1], it[2] == 77 ? 0 : it[2], it[3] == 77 ? 0 : it[3]);
                strange.add(0, it[0], it[1] == 77 ? odd : it[1], it[2] == 77 ? odd : it[2], it[3] == 77 ? odd : it[3]);
            }
            for (int i = 0; i < code.length; i++) {
                for (int what = 0; what < 4; what++) {
                    Checks.due("set " + what + " of " + i, strange.set(0, i, what), even.set(0, i, what));
                }
                Checks.due("plan of " + i, strange.plan(0, i), even.plan(0, i));
            }
            for (boolean isShort : Checks.BOTH) {
                Checks.due("run", strange.run(isShort, 0), DONE);
                even.run(isShort, 0);
                Checks.due("run: begun", strange.state(4), 10);
                Checks.due("run: given", strange.state(7), 2);
                for (int what = 0; what < 10; what++) {
                    Checks.due("state " + what, strange.state(what), even.state(what));
                }
            }
        }
    }

    private static void addTakesAnyIntForNewAndAdd() {
        Checks.sentence("NEW and ADD take any c");
        for (int c : new int[] {-1, 0, 1, 16, LEAST, MOST}) {
            Desk desk = new Desk();
            Checks.due("NEW " + c, desk.add(0, Checks.NEW, 5, 0, c), 1);
            Checks.due("ADD " + c, desk.add(0, Checks.ADD, 5, 0, c), 2);
            Checks.due("OUT", desk.add(0, Checks.OUT, 5, 0, 0), 3);
            Checks.dueRun("twice " + c, desk, Checks.PLAIN, DONE);
            Checks.dueOuts("twice " + c, desk, c + c);
        }
    }

    private static void addIsFullAtSixteen() {
        Checks.sentence("FULL if it has 16");
        for (int m = 0; m < 4; m++) {
            Desk desk = new Desk();
            for (int i = 0; i < 15; i++) {
                add(desk, m, Checks.OUT);
            }
            Checks.due("the sixteenth", add(desk, m, Checks.OUT), 16);
            for (int op = 0; op < 14; op++) {
                Checks.due("the seventeenth", add(desk, m, op), FULL);
            }
            for (int other = 0; other < 4; other++) {
                Checks.due("of method " + other, add(desk, other, Checks.OUT), other == m ? FULL : 1);
            }
            Checks.due("it had", desk.method(m, Checks.OWNED), 16);
            Checks.due("there is room again", add(desk, m, Checks.OUT), 1);
        }
    }

    private static void setRefusesWhatIsNotThere() {
        Checks.sentence("set: BAD if it is not there");
        Desk desk = Program.desk("OUT 0; OUT 0", "", "OUT 0", Program.times(16, "OUT 0"));
        for (int what = 0; what < 3; what++) {
            for (int m : new int[] {-1, 4, LEAST, MOST}) {
                Checks.due("method " + m, desk.set(m, 0, what), BAD);
            }
            for (int i : new int[] {-1, 2, 3, 15, 16, LEAST, MOST}) {
                Checks.due("instruction " + i, desk.set(0, i, what), BAD);
            }
            for (int i : new int[] {-1, 16, 17}) {
                Checks.due("instruction " + i + " of a full one", desk.set(3, i, what), BAD);
            }
            Checks.due("of an empty method", desk.set(1, 0, what), BAD);
            Checks.due("there", desk.set(0, 1, what), 1);
            Checks.due("the sixteenth", desk.set(3, 15, what), 1);
        }
    }

    private static void setRefusesOtherWhats() {
        Checks.sentence("set: BAD for other whats");
        Desk desk = Program.desk("IFNONE 0 0");
        for (int what : new int[] {-1, 4, 5, LEAST, MOST}) {
            Checks.due("what " + what, desk.set(0, 0, what), BAD);
        }
        for (int what = 0; what < 4; what++) {
            Checks.due("what " + what, desk.set(0, 0, what), what == 3 ? 0 : 1);
        }
    }

    private static void setRefusesWhereThereIsNoSuchWay() {
        Checks.sentence("set: BAD if it has no such way");
        for (int op = 0; op < 14; op++) {
            boolean leadsBehind = op != Checks.GO && op != Checks.GIVE && op != Checks.END;
            boolean jumps = op == Checks.GO || op == Checks.IFNONE;
            Desk desk = new Desk();
            add(desk, 0, op);
            add(desk, 0, Checks.OUT);
            add(desk, 0, op);
            for (int i = 0; i < 3; i += 2) {
                Checks.holds(NAMES[op] + " at " + i + ": needed", desk.set(0, i, 0) != BAD);
                Checks.holds(NAMES[op] + " at " + i + ": keeping", desk.set(0, i, 1) != BAD);
                Checks.due(NAMES[op] + " at " + i + ": behind", desk.set(0, i, 2) == BAD ? 0 : 1, leadsBehind ? 1 : 0);
                Checks.due(NAMES[op] + " at " + i + ": jump", desk.set(0, i, 3) == BAD ? 0 : 1, jumps ? 1 : 0);
            }
        }
    }

    private static void planRefusesWhatIsNotThere() {
        Checks.sentence("plan: BAD if it is not there");
        Desk desk = Program.desk("COPY 1 0; COPY 1 0", "", "OUT 0", Program.times(16, "COPY 1 0"));
        for (int m : new int[] {-1, 4, LEAST, MOST}) {
            Checks.due("method " + m, desk.plan(m, 0), BAD);
        }
        for (int i : new int[] {-1, 2, 3, 15, 16, LEAST, MOST}) {
            Checks.due("instruction " + i, desk.plan(0, i), BAD);
        }
        Checks.due("of an empty method", desk.plan(1, 0), BAD);
        Checks.due("behind the sixteenth", desk.plan(3, 16), BAD);
        Checks.due("the last", desk.plan(0, 1), 2);
        Checks.due("the sixteenth", desk.plan(3, 15), 2);
    }

    private static void planIsZeroForOthers() {
        Checks.sentence("plan: 0 for others");
        for (String op : new String[] {"NEW 1 2", "NONE 1", "OUT 1", "ADD 1 2", "ONLY 1", "OWN 1", "IFNONE 1 2", "GO 2", "GIVE 1",
            "END", "PUT 1 2 2", "COPY 1 1", "PUT 1 1 0", "GET 1 2 2", "GET 1 1 0", "CALL 1 2 1", "CALL 1 1 1"}) {
            Checks.due(op, Program.desk(op, "LENT: END").plan(0, 0), 0);
        }
    }

    private static void runBeginsWithNoObjects() {
        Checks.sentence("with no objects at first");
        Desk desk = Program.desk("NEW 0 1; PUT 0 0 0; PUT 0 0 1; GIVE 0", "OUT 0; OUT 5; NEW 0 2; GIVE 0", "END");
        for (boolean isShort : Checks.BOTH) {
            Checks.dueRun("a ring stays", desk, isShort, DONE);
            Checks.due("a ring stays: count(1)", desk.count(1), 3);
            Checks.due("another", desk.run(isShort, 1), DONE);
            Checks.due("another: alive", desk.state(5), 1);
            Checks.due("another: given", desk.state(7), 1);
            Checks.dueCounts("another", desk, 1, 0);
            Checks.dueFields("another", desk, 1, 0, 0, 0);
            Checks.due("none", desk.run(isShort, 2), DONE);
            Checks.dueCounts("none", desk, 0, 0);
            Checks.dueState("none", desk, 0, 0, 0, 0, 1, 0, 0, 0, 0, -1);
        }
        // Runs that leave objects alive do not add up to 25.
        for (int round = 0; round < 30; round++) {
            Checks.dueRun("round " + round, desk, round % 2 == 0, DONE);
            Checks.due("round " + round + ": alive", desk.state(5), 1);
        }
    }

    private static void runIsCalledWithNothing() {
        Checks.sentence("Runs METHOD m, called with nothing");
        for (String lent : new String[] {"", "LENT: "}) {
            for (int m = 0; m < 4; m++) {
                Desk desk = new Desk();
                Program.lay(desk, m, lent + "IFNONE 0 2; ADD 5 0; OUT 0; GIVE 0");
                for (boolean isShort : Checks.BOTH) {
                    Checks.due("run", desk.run(isShort, m), DONE);
                    Checks.dueState("run", desk, 1, 0, 0, 0, 3, 0, 0, 0, 0, -1);
                }
            }
        }
    }

    private static void runFailsWithoutInstructions() {
        Checks.sentence("FAILED (also if it has no instructions: state 8 is 1, 9 is 16 m)");
        Desk desk = new Desk();
        for (int m = 0; m < 4; m++) {
            for (boolean isShort : Checks.BOTH) {
                Checks.due("run " + m, desk.run(isShort, m), FAILED);
                Checks.dueState("run " + m, desk, 0, 0, 0, 0, 0, 0, 0, 0, 1, 16 * m);
            }
        }
        Program.lay(desk, 0, Program.times(16, "OUT 0"));
        Checks.dueRun("filled", desk, Checks.PLAIN, DONE);
        desk.method(0, Checks.OWNED);
        Checks.dueRun("emptied", desk, Checks.PLAIN, FAILED);
        Checks.dueState("emptied", desk, 0, 0, 0, 0, 0, 0, 0, 0, 1, 0);
    }
}

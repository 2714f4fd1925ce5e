/** The words READ, WRITTEN and NEEDED: each sentence at its edges. */
public final class EdgeNeededTest {
    public static void main(String[] args) {
        readByB();
        readByA();
        notRead();
        written();
        notWritten();
        readAndWritten();
        allSix();
        neverRead();
        writtenFirst();
        ifNoneLeadsBothWays();
        goLeadsToItsJump();
        giveAndEndLeadNowhere();
        behindTheLastNothing();
        jumpsBehindTheLast();
        roundALoop();
        whereNoWayLeads();
        laidAnew();
        eachMethodAlone();
        Checks.finish();
    }

    private static int needed(String text, int i) {
        return Program.desk(text).set(0, i, 0);
    }

    private static void readByB() {
        Checks.sentence("READ are b by COPY, GET, PUT, CALL");
        for (int b = 0; b < 6; b++) {
            int a = b == 0 ? 1 : 0;
            Checks.due("COPY", needed("COPY " + a + " " + b, 0), 1 << b);
            Checks.due("GET", needed("GET " + a + " " + b + " 2", 0), 1 << b);
            Checks.due("PUT", needed("PUT " + a + " " + b + " 1", 0), 1 << b | 1 << a);
            Checks.due("CALL", needed("CALL " + a + " " + b + " 3", 0), 1 << b);
        }
    }

    private static void readByA() {
        Checks.sentence("and a by PUT, OUT, ADD, ONLY, OWN, IFNONE, GIVE");
        for (int a = 0; a < 6; a++) {
            for (String op : new String[] {"PUT @ @ 0", "OUT @", "ADD @ 1", "ONLY @", "OWN @", "IFNONE @ 5", "GIVE @"}) {
                Checks.due(op, needed(op.replace("@", "" + a), 0), 1 << a);
            }
        }
    }

    private static void notRead() {
        Checks.sentence("READ are b by COPY, GET, PUT, CALL, and a by PUT, OUT, ADD, ONLY, OWN, IFNONE, GIVE");
        for (String op : new String[] {"NEW 1 2", "NONE 1", "GO 2", "END"}) {
            Checks.due(op, needed(op, 0), 0);
        }
        for (String op : new String[] {"COPY 1 2", "GET 1 2 0", "CALL 1 2 0"}) {
            Checks.due(op, needed(op, 0), 4);
        }
    }

    private static void written() {
        Checks.sentence("WRITTEN is a by NEW, COPY, NONE, GET, OWN, CALL");
        for (String op : new String[] {"NEW 1 0", "NONE 1"}) {
            Checks.due(op, needed(op + "; OUT 1; OUT 3", 0), 8);
        }
        for (String op : new String[] {"COPY 1 2", "GET 1 2 0", "CALL 1 2 0"}) {
            Checks.due(op, needed(op + "; OUT 1; OUT 3", 0), 12);
        }
    }

    private static void notWritten() {
        Checks.sentence("WRITTEN is a by NEW, COPY, NONE, GET, OWN, CALL");
        // GO has no a: what it was added with does not matter.
        Desk desk = new Desk();
        desk.add(0, Checks.GO, 1, 1, 1);
        desk.add(0, Checks.OUT, 1, 0, 0);
        Checks.due("GO", desk.set(0, 0, 0), 2);
        for (String op : new String[] {"PUT 3 2 0", "OUT 3", "ADD 3 0", "ONLY 3", "OWN 3", "IFNONE 3 1"}) {
            Checks.due(op + ", another", needed(op + "; OUT 1", 0), op.startsWith("PUT") ? 14 : 10);
            Checks.due(op + ", the same", needed(op + "; OUT 3", 0), op.startsWith("PUT") ? 12 : 8);
        }
        // COPY, GET, CALL and NEW write a alone.
        for (String op : new String[] {"COPY 3 2", "GET 3 2 1", "CALL 3 2 1"}) {
            Checks.due(op + ", b", needed(op + "; OUT 2", 0), 4);
        }
    }

    private static void readAndWritten() {
        Checks.sentence("an instruction READS it before one that does not READ it has WRITTEN it");
        for (String op : new String[] {"COPY 4 4", "GET 4 4 0", "CALL 4 4 0", "OWN 4"}) {
            Checks.due(op, needed(op, 0), 16);
            Checks.due("NONE 3; " + op, needed("NONE 3; " + op, 0), 16);
        }
    }

    private static void allSix() {
        Checks.sentence("A VARIABLE is NEEDED in front of an instruction");
        String text = "PUT 0 1 0; PUT 2 3 0; PUT 4 5 0";
        Checks.due("all", needed(text, 0), 63);
        Checks.due("four", needed(text, 1), 60);
        Checks.due("two", needed(text, 2), 48);
        Checks.due("over fifteen", needed(Program.times(15, "GO 1").replaceFirst("GO 1", "IFNONE 0 15") + "; PUT 4 5 1", 0), 49);
    }

    private static void neverRead() {
        Checks.sentence("A VARIABLE is NEEDED in front of an instruction if on some way through the METHOD from there on an instruction READS it");
        for (int i = 0; i < 3; i++) {
            Checks.due("none", needed("NEW 0 1; NONE 5; END", i), 0);
        }
    }

    private static void writtenFirst() {
        Checks.sentence("READS it before one that does not READ it has WRITTEN it");
        String text = "OUT 0; NEW 0 1; OUT 0; NONE 0; OUT 0";
        int[] want = {1, 0, 1, 0, 1};
        for (int i = 0; i < want.length; i++) {
            Checks.due("at " + i, needed(text, i), want[i]);
        }
        // Written on one way, read on the other: needed.
        Checks.due("one way", needed("IFNONE 1 2; NONE 0; OUT 0", 0), 3);
        // Written on both ways: not needed.
        Checks.due("both ways", needed("IFNONE 1 3; NONE 0; OUT 0; NONE 0; OUT 0", 0), 2);
    }

    private static void ifNoneLeadsBothWays() {
        Checks.sentence("IFNONE leads both ways");
        Checks.due("both", needed("IFNONE 0 3; OUT 1; END; OUT 2", 0), 7);
        // Even where a surely holds nothing, or surely an object.
        Checks.due("surely nothing", needed("NONE 0; IFNONE 0 4; OUT 1; END; OUT 2", 0), 6);
        Checks.due("surely an object", needed("NEW 0 1; IFNONE 0 4; OUT 1; END; OUT 2", 0), 6);
        Checks.due("to the next", needed("IFNONE 0 1; OUT 1", 0), 3);
        Checks.due("to itself", needed("IFNONE 0 0; OUT 1", 0), 3);
    }

    private static void goLeadsToItsJump() {
        Checks.sentence("on some way through the METHOD from there on");
        Checks.due("over one", needed("GO 2; OUT 0; OUT 1", 0), 2);
        Checks.due("to the sixteenth", needed("GO 15; " + Program.times(14, "OUT 0") + "; OUT 5", 0), 32);
        Checks.due("to itself", needed("GO 0; OUT 0", 0), 0);
        Checks.due("to one another", needed("GO 1; GO 0; OUT 0", 0), 0);
    }

    private static void giveAndEndLeadNowhere() {
        Checks.sentence("GIVE a: the METHOD ends and GIVES what a holds; END: it ends and GIVES nothing");
        Checks.due("GIVE", needed("GIVE 1; OUT 0", 0), 2);
        Checks.due("END", needed("END; OUT 0", 0), 0);
    }

    private static void behindTheLastNothing() {
        Checks.sentence("behind an instruction: in front of one to which it leads");
        for (String op : new String[] {"COPY 1 0", "PUT 1 0 0", "CALL 1 0 1"}) {
            Checks.due(op + " as the last", Program.desk(op).plan(0, 0), 2);
            Checks.due(op + " as the sixteenth", Program.desk(Program.times(15, "OUT 0") + "; " + op).plan(0, 15), 2);
            Checks.due(op + " before one that reads", Program.desk(op + "; OUT 0").plan(0, 0), 0);
        }
        // The first of the next method is not behind the sixteenth.
        Desk desk = Program.desk(Program.times(15, "NONE 1") + "; COPY 1 0", Program.times(16, "OUT 0"));
        Checks.due("the next method", desk.plan(0, 15), 2);
        Checks.due("the next method", desk.set(0, 15, 0), 1);
        Checks.due("the next method", desk.set(0, 15, 2), 2);
    }

    private static void jumpsBehindTheLast() {
        Checks.sentence("Behind the last instruction it goes on as with an END");
        for (int c = 2; c < 16; c++) {
            Desk desk = new Desk();
            // What stood there before the method was laid anew is not there any more.
            Program.lay(desk, 0, Program.times(16, "PUT 4 5 0"));
            desk.set(0, 15, 0);
            Program.lay(desk, 0, "GO " + c + "; OUT 0");
            Checks.due("GO " + c, desk.set(0, 0, 0), 0);
            Program.lay(desk, 0, "IFNONE 1 " + c + "; END");
            Checks.due("IFNONE 1 " + c, desk.set(0, 0, 0), 2);
        }
    }

    private static void roundALoop() {
        Checks.sentence("on some way through the METHOD from there on");
        String text = "OUT 5; GO 3; OUT 0; NONE 4; OUT 4; IFNONE 3 0; END";
        int[] want = {40, 40, 41, 40, 56, 40, 0};
        for (int i = 0; i < want.length; i++) {
            Checks.due("at " + i, needed(text, i), want[i]);
        }
        // Each jump goes back by one, so that what is read at the end of the way is found late.
        String back = Program.farBack("NEW 1 1", "OUT 1", "OUT 5");
        for (int i = 0; i < 16; i++) {
            Checks.due("far back, at " + i, needed(back, i), i == 0 || i == 3 ? 32 : i == 4 ? 0 : 34);
        }
    }

    private static void whereNoWayLeads() {
        Checks.sentence("what 0: those NEEDED in front of it (1 to 3: none if no way leads to the instruction)");
        Checks.due("behind an END", needed("END; OUT 4; COPY 1 2", 1), 20);
        Checks.due("behind an END, the next", needed("END; OUT 4; COPY 1 2", 2), 4);
    }

    private static void laidAnew() {
        Checks.sentence("on some way through the METHOD from there on");
        // Round a loop, what was needed before the method was laid anew must not go on being so.
        Desk desk = new Desk();
        for (int v = 0; v < 6; v++) {
            Program.lay(desk, 0, "OUT " + v + "; GO 0");
            Checks.due("of the first", desk.set(0, 0, 0), 1 << v);
            Checks.due("of the jump", desk.set(0, 1, 0), 1 << v);
        }
        Program.lay(desk, 0, "GO 0");
        Checks.due("none", desk.set(0, 0, 0), 0);
        desk.add(0, Checks.OUT, 4, 0, 0);
        Checks.due("no way leads on", desk.set(0, 0, 0), 0);
        Program.lay(desk, 0, "IFNONE 0 0");
        Checks.due("itself", desk.set(0, 0, 0), 1);
        desk.add(0, Checks.OUT, 4, 0, 0);
        Checks.due("a further one", desk.set(0, 0, 0), 17);
    }

    private static void eachMethodAlone() {
        Checks.sentence("A VARIABLE is NEEDED in front of an instruction if on some way through the METHOD");
        Desk desk = Program.desk("CALL 1 0 1; END", "OUT 5; CALL 0 3 2", "OUT 2; OUT 4", "NONE 0");
        Checks.due("method 0", desk.set(0, 0, 0), 1);
        Checks.due("method 1", desk.set(1, 0, 0), 40);
        Checks.due("method 2", desk.set(2, 0, 0), 20);
        Checks.due("method 3", desk.set(3, 0, 0), 0);
    }
}

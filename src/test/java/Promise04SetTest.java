/** Promise 4: needed, keeping and left variables. */
public final class Promise04SetTest {
    private static final int BAD = ArcDesk.BAD;

    public static void main(String[] args) {
        whatEachReadsAndWrites();
        neededOnEveryWay();
        keepingComesRoundALoop();
        keepingByEachInstruction();
        leftOnBothWays();
        leftBehindTheLast();
        nothingWhereNoWayLeads();
        callsByHowTheyTake();
        wrongInputs();
        Checks.finish();
    }

    private static void dueSets(String what, Desk desk, int m, int i, int... want) {
        for (int w = 0; w < 4; w++) {
            Checks.due(what + ": set(" + m + ", " + i + ", " + w + ")", desk.set(m, i, w), want[w]);
        }
    }

    /** Each op with a = 1, b = 2; behind it variables 1 and 3 are read, or none is. */
    private static void whatEachReadsAndWrites() {
        int[] needed = {8, 12, 8, 12, 14, 10, 10, 10, 10, 10, 10, 12, 2, 0};
        int[] alone = {0, 4, 0, 4, 6, 2, 2, 2, 2, 2, 0, 4, 2, 0};
        for (int op = 0; op <= 13; op++) {
            Desk desk = new Desk();
            Checks.lay(desk, 0, Checks.OWNED, Checks.in(op, 1, 2, 1), Checks.in(Checks.PUT, 1, 3, 0));
            Checks.lay(desk, 1, Checks.OWNED, Checks.in(op, 1, 2, 1), Checks.in(Checks.END, 0, 0, 0));
            Checks.due("op " + op + ": needed", desk.set(0, 0, 0), needed[op]);
            Checks.due("op " + op + " alone: needed", desk.set(1, 0, 0), alone[op]);
        }
        // With a as b, what is read and written is needed.
        for (int op : new int[] {Checks.COPY, Checks.GET, Checks.PUT, Checks.CALL}) {
            Desk desk = new Desk();
            Checks.lay(desk, 0, Checks.OWNED, Checks.in(op, 5, 5, 0));
            Checks.due("op " + op + " with a as b: needed", desk.set(0, 0, 0), 32);
        }
        // Jumps that are behind the last lead to where nothing is needed.
        Desk desk = new Desk();
        Checks.lay(desk, 0, Checks.OWNED, Checks.in(Checks.GO, 0, 0, 2), Checks.in(Checks.OUT, 0, 0, 0));
        Checks.due("behind the last: needed", desk.set(0, 0, 0), 0);
    }

    private static void neededOnEveryWay() {
        Desk desk = new Desk();
        Checks.lay(desk, 0, Checks.OWNED,
                Checks.in(Checks.IFNONE, 0, 0, 3),
                Checks.in(Checks.OUT, 1, 0, 0),
                Checks.in(Checks.END, 0, 0, 0),
                Checks.in(Checks.OUT, 2, 0, 0),
                Checks.in(Checks.NEW, 3, 0, 1),
                Checks.in(Checks.OUT, 3, 0, 0),
                Checks.in(Checks.GO, 0, 0, 0));
        int[] want = {7, 2, 0, 7, 7, 15, 7};
        // Instruction 3 reads 2 and comes back to 0, in front of which 0, 1 and 2 are needed.
        for (int i = 0; i < want.length; i++) {
            Checks.due("two ways: needed at " + i, desk.set(0, i, 0), want[i]);
        }
    }

    private static void keepingComesRoundALoop() {
        int[][] walk = {
            Checks.in(Checks.IFNONE, 0, 0, 3),
            Checks.in(Checks.GET, 0, 0, 0),
            Checks.in(Checks.GO, 0, 0, 0),
            Checks.in(Checks.END, 0, 0, 0),
        };
        Desk desk = new Desk();
        Checks.lay(desk, 0, Checks.OWNED, walk);
        Checks.lay(desk, 1, Checks.LENT, walk);
        for (int m = 0; m < 2; m++) {
            // Even if it is lent at first, what GET brings is counted when the loop comes round.
            dueSets("walk", desk, m, 0, 1, 1, 0, 1);
            dueSets("walk", desk, m, 1, 1, 1, 0, BAD);
            dueSets("walk", desk, m, 2, 1, 1, BAD, 0);
            dueSets("walk", desk, m, 3, 0, 0, BAD, BAD);
        }
    }

    private static void keepingByEachInstruction() {
        Desk desk = new Desk();
        Checks.lay(desk, 0, Checks.LENT,
                Checks.in(Checks.NEW, 1, 0, 1),     // 1 comes
                Checks.in(Checks.COPY, 2, 1, 0),    // 2 comes, 1 is still needed
                Checks.in(Checks.GET, 3, 1, 0),     // a loan: 3 does not come
                Checks.in(Checks.OUT, 3, 0, 0),
                Checks.in(Checks.GET, 4, 1, 2),     // from the weak field: 4 comes
                Checks.in(Checks.OWN, 0, 0, 0),     // 0 was lent, and comes
                Checks.in(Checks.PUT, 2, 0, 1),     // 0 is handed over and goes
                Checks.in(Checks.CALL, 5, 4, 0),    // lent: 4 does not go by it, 5 comes
                Checks.in(Checks.NONE, 1, 0, 0),    // 1 goes
                Checks.in(Checks.OUT, 1, 0, 0),
                Checks.in(Checks.OUT, 5, 0, 0),
                Checks.in(Checks.COPY, 1, 2, 0),    // 2 is handed over and goes, 1 comes
                Checks.in(Checks.GIVE, 1, 0, 0));
        dueSets("each", desk, 0, 0, 1, 0, 0, BAD);
        dueSets("each", desk, 0, 1, 3, 2, 0, BAD);
        dueSets("each", desk, 0, 2, 7, 6, 0, BAD);
        dueSets("each", desk, 0, 3, 15, 6, 0, BAD);
        dueSets("each", desk, 0, 4, 7, 6, 2, BAD);
        dueSets("each", desk, 0, 5, 21, 20, 0, BAD);
        dueSets("each", desk, 0, 6, 21, 21, 0, BAD);
        dueSets("each", desk, 0, 7, 20, 20, 16, BAD);
        dueSets("each", desk, 0, 8, 36, 36, 0, BAD);
        dueSets("each", desk, 0, 9, 38, 36, 0, BAD);
        dueSets("each", desk, 0, 10, 36, 36, 32, BAD);
        dueSets("each", desk, 0, 11, 4, 4, 0, BAD);
        dueSets("each", desk, 0, 12, 2, 2, BAD, BAD);
    }

    private static void leftOnBothWays() {
        Desk desk = new Desk();
        Checks.lay(desk, 2, Checks.OWNED,
                Checks.in(Checks.NEW, 1, 0, 1),
                Checks.in(Checks.NEW, 2, 0, 1),
                Checks.in(Checks.IFNONE, 0, 0, 5),
                Checks.in(Checks.OUT, 1, 0, 0),
                Checks.in(Checks.END, 0, 0, 0),
                Checks.in(Checks.OUT, 2, 0, 0),
                Checks.in(Checks.GO, 0, 0, 4));
        dueSets("both ways", desk, 2, 2, 7, 7, 5, 3);
        dueSets("both ways", desk, 2, 3, 2, 2, 2, BAD);
        dueSets("both ways", desk, 2, 4, 0, 0, BAD, BAD);
        dueSets("both ways", desk, 2, 5, 4, 4, 4, BAD);
        dueSets("both ways", desk, 2, 6, 0, 0, BAD, 0);
        // What is made and never needed is left at once; what is called with and not needed never counts.
        Checks.lay(desk, 0, Checks.OWNED, Checks.in(Checks.NEW, 3, 0, 1), Checks.in(Checks.NEW, 4, 0, 1));
        dueSets("never needed", desk, 0, 0, 0, 0, 8, BAD);
        dueSets("never needed", desk, 0, 1, 0, 0, 16, BAD);
    }

    private static void leftBehindTheLast() {
        Desk desk = new Desk();
        Checks.lay(desk, 0, Checks.OWNED,
                Checks.in(Checks.NEW, 2, 0, 1),
                Checks.in(Checks.IFNONE, 2, 0, 15),
                Checks.in(Checks.IFNONE, 0, 0, 4),
                Checks.in(Checks.OUT, 2, 0, 0));
        dueSets("behind the last", desk, 0, 0, 1, 1, 0, BAD);
        dueSets("behind the last", desk, 0, 1, 5, 5, 0, 5);
        dueSets("behind the last", desk, 0, 2, 5, 5, 1, 5);
        dueSets("behind the last", desk, 0, 3, 4, 4, 4, BAD);
        Checks.lay(desk, 1, Checks.OWNED, Checks.in(Checks.GIVE, 0, 0, 0));
        dueSets("a give is on no way", desk, 1, 0, 1, 1, BAD, BAD);
    }

    private static void nothingWhereNoWayLeads() {
        Desk desk = new Desk();
        Checks.lay(desk, 0, Checks.OWNED,
                Checks.in(Checks.GO, 0, 0, 3),
                Checks.in(Checks.NEW, 3, 0, 0),
                Checks.in(Checks.IFNONE, 3, 0, 1),
                Checks.in(Checks.OUT, 0, 0, 0),
                Checks.in(Checks.END, 0, 0, 0),
                Checks.in(Checks.OUT, 1, 0, 0));
        dueSets("no way", desk, 0, 0, 1, 1, BAD, 0);
        dueSets("no way", desk, 0, 1, 1, 0, 0, BAD);
        dueSets("no way", desk, 0, 2, 9, 0, 0, 0);
        // What comes from where no way leads does not count either.
        dueSets("no way", desk, 0, 3, 1, 1, 1, BAD);
        dueSets("no way", desk, 0, 5, 2, 0, 0, BAD);
    }

    private static void callsByHowTheyTake() {
        Desk desk = new Desk();
        int[][] calls = {
            Checks.in(Checks.CALL, 0, 0, 1),
            Checks.in(Checks.CALL, 2, 0, 1),
            Checks.in(Checks.OUT, 0, 0, 0),
            Checks.in(Checks.CALL, 3, 0, 1),
            Checks.in(Checks.END, 0, 0, 0),
        };
        Checks.lay(desk, 0, Checks.LENT, calls);
        dueSets("owned calls", desk, 0, 0, 1, 0, 0, BAD);
        dueSets("owned calls", desk, 0, 1, 1, 1, 4, BAD);
        dueSets("owned calls", desk, 0, 2, 1, 1, 0, BAD);
        dueSets("owned calls", desk, 0, 3, 1, 1, 8, BAD);
        desk.method(1, Checks.LENT);
        dueSets("lent calls", desk, 0, 0, 1, 0, 0, BAD);
        dueSets("lent calls", desk, 0, 3, 1, 1, 9, BAD);
    }

    private static void wrongInputs() {
        Desk desk = new Desk();
        Checks.lay(desk, 0, Checks.OWNED, Checks.in(Checks.OUT, 0, 0, 0), Checks.in(Checks.IFNONE, 0, 0, 0));
        int[] wrong = {-1, 4, Integer.MIN_VALUE, Integer.MAX_VALUE};
        for (int bad : wrong) {
            Checks.due("set(" + bad + ", 0, 0)", desk.set(bad, 0, 0), BAD);
            Checks.due("set(0, " + bad + ", 0)", desk.set(0, bad, 0), BAD);
            Checks.due("set(0, 1, " + bad + ")", desk.set(0, 1, bad), BAD);
        }
        Checks.due("behind the last", desk.set(0, 2, 0), BAD);
        Checks.due("in an empty method", desk.set(1, 0, 0), BAD);
    }
}

/** Promise 3: which instructions add takes, and how many. */
public final class Promise03AddTest {
    private static final int LEAST = Integer.MIN_VALUE, MOST = Integer.MAX_VALUE;

    public static void main(String[] args) {
        countsUpToSixteen();
        refusesMethodsAndOps();
        looksAtA();
        looksAtB();
        looksAtC();
        Checks.finish();
    }

    private static void countsUpToSixteen() {
        Desk desk = new Desk();
        for (int m = 0; m < 4; m++) {
            for (int i = 1; i <= 16; i++) {
                Checks.due("instruction " + i, desk.add(m, Checks.OUT, 0, 0, 0), i);
            }
            Checks.due("one more", desk.add(m, Checks.OUT, 0, 0, 0), ArcDesk.FULL);
            Checks.due("and again", desk.add(m, Checks.END, 0, 0, 0), ArcDesk.FULL);
            Checks.due("the last is as it was", desk.set(m, 15, 0), 1);
            Checks.due("it has", desk.method(m, false), 16);
        }
    }

    private static void refusesMethodsAndOps() {
        Desk desk = new Desk();
        for (int wrong : new int[] {-1, 4, 16, LEAST, MOST}) {
            Checks.due("method " + wrong, desk.add(wrong, Checks.END, 0, 0, 0), ArcDesk.BAD);
        }
        for (int wrong : new int[] {-1, 14, 15, LEAST, MOST}) {
            Checks.due("op " + wrong, desk.add(0, wrong, 0, 0, 0), ArcDesk.BAD);
        }
        for (int op = 0; op <= 13; op++) {
            Checks.due("op " + op, desk.add(0, op, 0, 0, 0), op + 1);
        }
        Checks.due("nothing else was added", desk.method(0, false), 14);
    }

    private static void looksAtA() {
        for (int op = 0; op <= 13; op++) {
            boolean looks = op != Checks.GO && op != Checks.END;
            Desk desk = new Desk();
            int had = 0;
            for (int a : new int[] {-1, 6, LEAST, MOST}) {
                had += looks ? 0 : 1;
                Checks.due("op " + op + " with a " + a, desk.add(1, op, a, 0, 0), looks ? ArcDesk.BAD : had);
            }
            for (int a = 0; a <= 5; a++) {
                had++;
                Checks.due("op " + op + " with a " + a, desk.add(1, op, a, 0, 0), had);
            }
        }
    }

    private static void looksAtB() {
        for (int op = 0; op <= 13; op++) {
            boolean looks = op == Checks.COPY || op == Checks.GET || op == Checks.PUT || op == Checks.CALL;
            Desk desk = new Desk();
            int had = 0;
            for (int b : new int[] {-1, 6, LEAST, MOST}) {
                had += looks ? 0 : 1;
                Checks.due("op " + op + " with b " + b, desk.add(2, op, 0, b, 0), looks ? ArcDesk.BAD : had);
            }
            for (int b = 0; b <= 5; b++) {
                had++;
                Checks.due("op " + op + " with b " + b, desk.add(2, op, 0, b, 0), had);
            }
        }
    }

    private static void looksAtC() {
        int[] most = {MOST, MOST, MOST, 2, 2, MOST, MOST, MOST, MOST, 15, 15, 3, MOST, MOST};
        for (int op = 0; op <= 13; op++) {
            Desk desk = new Desk();
            boolean looks = most[op] != MOST;
            int had = 0;
            for (int c : new int[] {-1, LEAST, MOST, looks ? most[op] + 1 : 99}) {
                had += looks ? 0 : 1;
                Checks.due("op " + op + " with c " + c, desk.add(3, op, 0, 0, c), looks ? ArcDesk.BAD : had);
            }
            for (int c : new int[] {0, 1, 2, looks ? most[op] : 98}) {
                had++;
                Checks.due("op " + op + " with c " + c, desk.add(3, op, 0, 0, c), had);
            }
        }
    }
}

/** Promise 2: method empties a method, says how it takes, and answers how many instructions it had. */
public final class Promise02MethodTest {
    public static void main(String[] args) {
        answersHowManyItHad();
        leavesTheOthersAlone();
        saysHowItTakes();
        refusesOtherMethods();
        leavesTheLatestRunAlone();
        forgetsWhatWasFound();
        Checks.finish();
    }

    private static void answersHowManyItHad() {
        Desk desk = new Desk();
        for (int m = 0; m < 4; m++) {
            for (int i = 0; i <= m; i++) {
                desk.add(m, Checks.NONE, 0, 0, 0);
            }
        }
        for (int m = 0; m < 4; m++) {
            Checks.due("method " + m + " had", desk.method(m, Checks.LENT), m + 1);
            Checks.due("method " + m + " has then", desk.method(m, Checks.LENT), 0);
            Checks.due("its first is gone", desk.plan(m, 0), ArcDesk.BAD);
            Checks.due("it begins anew", desk.add(m, Checks.END, 0, 0, 0), 1);
        }
        for (int i = 1; i < 16; i++) {
            desk.add(2, Checks.NONE, 0, 0, 0);
        }
        Checks.due("a full method had", desk.method(2, Checks.OWNED), 16);
    }

    private static void leavesTheOthersAlone() {
        Desk desk = new Desk();
        desk.add(0, Checks.OUT, 3, 0, 0);
        desk.add(1, Checks.OUT, 4, 0, 0);
        desk.method(0, Checks.OWNED);
        Checks.due("method 1 stands", desk.set(1, 0, 0), 16);
        Checks.due("method 0 does not", desk.set(0, 0, 0), ArcDesk.BAD);
    }

    private static void saysHowItTakes() {
        Desk desk = new Desk();
        desk.add(0, Checks.CALL, 1, 0, 1);
        Checks.due("owned at first", desk.plan(0, 0), 2);
        desk.method(1, Checks.LENT);
        Checks.due("lent", desk.plan(0, 0), 0);
        desk.method(1, Checks.OWNED);
        Checks.due("owned again", desk.plan(0, 0), 2);
        desk.method(0, Checks.LENT);
        desk.add(0, Checks.OUT, 0, 0, 0);
        Checks.due("lent: variable 0 is not kept", desk.set(0, 0, 1), 0);
        desk.method(0, Checks.OWNED);
        desk.add(0, Checks.OUT, 0, 0, 0);
        Checks.due("owned: variable 0 is kept", desk.set(0, 0, 1), 1);
    }

    private static void refusesOtherMethods() {
        Desk desk = new Desk();
        desk.add(0, Checks.OUT, 0, 0, 0);
        desk.add(3, Checks.OUT, 0, 0, 0);
        int[] wrong = {-1, 4, 5, Integer.MIN_VALUE, Integer.MAX_VALUE};
        for (int m : wrong) {
            Checks.due("method(" + m + ")", desk.method(m, Checks.LENT), ArcDesk.BAD);
        }
        Checks.due("method 0 is still owned", desk.set(0, 0, 1), 1);
        Checks.due("method 3 still has one", desk.method(3, Checks.OWNED), 1);
    }

    /** In a loop, what was needed before the method was laid anew would go round for ever. */
    private static void forgetsWhatWasFound() {
        Desk desk = new Desk();
        for (int v = 0; v < 6; v++) {
            Checks.lay(desk, 0, Checks.OWNED, Checks.in(Checks.OUT, v, 0, 0), Checks.in(Checks.COPY, 5, v, 0),
                    Checks.in(Checks.GO, 0, 0, 0));
            for (int i = 0; i < 3; i++) {
                Checks.due("needed at " + i, desk.set(0, i, 0), 1 << v);
                Checks.due("kept at " + i, desk.set(0, i, 1), v == 0 ? 1 : v == 5 ? 32 : 0);
            }
        }
    }

    private static void leavesTheLatestRunAlone() {
        Desk desk = new Desk();
        desk.add(0, Checks.NEW, 0, 0, 6);
        desk.add(0, Checks.OUT, 0, 0, 0);
        desk.add(0, Checks.GIVE, 0, 0, 0);
        desk.run(Checks.SHORT, 0);
        desk.method(0, Checks.LENT);
        Checks.dueState("method after a run", desk, 1, 0, 0, 0, 3, 1, 1, 1, 0, -1);
        Checks.due("out(0)", desk.out(0), 6);
        Checks.due("count(1)", desk.count(1), 1);
    }
}

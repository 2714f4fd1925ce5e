/** Promise 12: which answer comes first where two are due, and that refusals change nothing. */
public final class Promise12OrderTest {
    public static void main(String[] args) {
        badBeforeFull();
        badBeforeNoWay();
        Checks.finish();
    }

    private static void badBeforeFull() {
        Desk desk = new Desk();
        for (int i = 0; i < 16; i++) {
            desk.add(0, Checks.OUT, i % 6, 0, 0);
        }
        Checks.due("a bad op", desk.add(0, 14, 0, 0, 0), ArcDesk.BAD);
        Checks.due("a bad a", desk.add(0, Checks.OUT, 6, 0, 0), ArcDesk.BAD);
        Checks.due("a bad b", desk.add(0, Checks.COPY, 0, -1, 0), ArcDesk.BAD);
        Checks.due("a bad c", desk.add(0, Checks.GO, 0, 0, 16), ArcDesk.BAD);
        Checks.due("a good one", desk.add(0, Checks.GO, 9, 9, 15), ArcDesk.FULL);
        for (int i = 0; i < 16; i++) {
            int readFromThereOn = 0;
            for (int j = i; j < 16; j++) {
                readFromThereOn |= 1 << j % 6;
            }
            Checks.due("instruction " + i + " is as it was", desk.set(0, i, 0), readFromThereOn);
        }
        Checks.due("it still has", desk.method(0, Checks.OWNED), 16);
        // Refused in the middle: the next one takes the place.
        Checks.due("first", desk.add(0, Checks.OUT, 1, 0, 0), 1);
        Checks.due("refused", desk.add(0, Checks.OUT, -1, 0, 0), ArcDesk.BAD);
        Checks.due("second", desk.add(0, Checks.OUT, 2, 0, 0), 2);
        Checks.due("second: needed", desk.set(0, 1, 0), 4);
    }

    private static void badBeforeNoWay() {
        Desk desk = new Desk();
        Checks.lay(desk, 0, Checks.OWNED,
                Checks.in(Checks.END, 0, 0, 0),
                Checks.in(Checks.OUT, 0, 0, 0),
                Checks.in(Checks.GO, 0, 0, 1),
                Checks.in(Checks.GIVE, 0, 0, 0));
        Checks.due("no jump", desk.set(0, 1, 3), ArcDesk.BAD);
        Checks.due("no way behind a GO", desk.set(0, 2, 2), ArcDesk.BAD);
        Checks.due("no way behind a GIVE", desk.set(0, 3, 2), ArcDesk.BAD);
        Checks.due("no jump of a GIVE", desk.set(0, 3, 3), ArcDesk.BAD);
        Checks.due("another what", desk.set(0, 1, 4), ArcDesk.BAD);
        Checks.due("a way behind, to which none leads", desk.set(0, 1, 2), 0);
        Checks.due("a jump to which none leads", desk.set(0, 2, 3), 0);
        Checks.due("keeping where none leads", desk.set(0, 3, 1), 0);
        Checks.due("needed where none leads", desk.set(0, 3, 0), 1);
    }
}

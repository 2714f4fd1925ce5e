/** An ArcDesk of which no test asks more than the document promises: 512 calls. */
final class Desk {
    private static final int MOST = 512;
    private final ArcDesk desk = new ArcDesk();
    private int used = 0;

    private void use() {
        used++;
        if (used == MOST + 1) {
            Checks.holds("a test uses a desk for at most " + MOST + " calls", false);
        }
    }

    /** How many calls are left. */
    int left() {
        return MOST - used;
    }

    int method(int m, boolean lent) {
        use();
        return desk.method(m, lent);
    }

    int add(int m, int op, int a, int b, int c) {
        use();
        return desk.add(m, op, a, b, c);
    }

    int set(int m, int i, int what) {
        use();
        return desk.set(m, i, what);
    }

    int plan(int m, int i) {
        use();
        return desk.plan(m, i);
    }

    int run(boolean isShort, int m) {
        use();
        return desk.run(isShort, m);
    }

    int out(int k) {
        use();
        return desk.out(k);
    }

    int ended(int k) {
        use();
        return desk.ended(k);
    }

    int count(int n) {
        use();
        return desk.count(n);
    }

    int field(int n, int f) {
        use();
        return desk.field(n, f);
    }

    int state(int what) {
        use();
        return desk.state(what);
    }
}

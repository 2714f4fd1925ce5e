/** What the tests share: comparing answers, and writing whole methods in one call. */
final class Checks {
    static final int NEW = 0, COPY = 1, NONE = 2, GET = 3, PUT = 4, OUT = 5, ADD = 6;
    static final int ONLY = 7, OWN = 8, IFNONE = 9, GO = 10, CALL = 11, GIVE = 12, END = 13;
    static final boolean PLAIN = false, SHORT = true, OWNED = false, LENT = true;

    private static int wrong = 0;
    private static int looked = 0;

    private Checks() {
    }

    static void due(String call, int got, int want) {
        looked++;
        if (got != want) {
            wrong++;
            System.out.println(call + " answered " + got + ", due is " + want);
        }
    }

    static void holds(String what, boolean isSo) {
        due(what + " (1 if so)", isSo ? 1 : 0, 1);
    }

    /** An instruction: op, a, b, c. */
    static int[] in(int op, int a, int b, int c) {
        return new int[] {op, a, b, c};
    }

    /** Lays a method anew. */
    static void lay(ArcDesk desk, int m, boolean lent, int[]... instructions) {
        desk.method(m, lent);
        for (int i = 0; i < instructions.length; i++) {
            int[] it = instructions[i];
            due("add " + i + " to method " + m, desk.add(m, it[0], it[1], it[2], it[3]), i + 1);
        }
    }

    /** All of state 0 to 9, in order. */
    static void dueState(String when, ArcDesk desk, int... want) {
        for (int what = 0; what < want.length; what++) {
            due(when + ": state(" + what + ")", desk.state(what), want[what]);
        }
    }

    static void dueOuts(String when, ArcDesk desk, int... want) {
        due(when + ": state(0)", desk.state(0), want.length);
        for (int k = 0; k < want.length; k++) {
            due(when + ": out(" + k + ")", desk.out(k), want[k]);
        }
        due(when + ": out behind the last", desk.out(want.length), 0);
    }

    static void dueEnds(String when, ArcDesk desk, int... want) {
        due(when + ": state(1)", desk.state(1), want.length);
        for (int k = 0; k < want.length; k++) {
            due(when + ": ended(" + k + ")", desk.ended(k), want[k]);
        }
        due(when + ": ended behind the last", desk.ended(want.length), 0);
    }

    static void finish() {
        System.out.println(wrong + " of " + looked + " answers are wrong");
        if (wrong != 0) {
            System.exit(1);
        }
    }
}

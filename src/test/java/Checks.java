/** What the tests share: comparing answers, and writing whole methods in one call. */
final class Checks {
    static final int NEW = 0, COPY = 1, NONE = 2, GET = 3, PUT = 4, OUT = 5, ADD = 6;
    static final int ONLY = 7, OWN = 8, IFNONE = 9, GO = 10, CALL = 11, GIVE = 12, END = 13;
    static final boolean PLAIN = false, SHORT = true, OWNED = false, LENT = true;
    static final boolean[] BOTH = {PLAIN, SHORT};

    private static int wrong = 0;
    private static int looked = 0;
    private static String sentence = "";

    private Checks() {
    }

    /** The document's words, shortened where they are many, that the answers from here on are about. */
    static void sentence(String words) {
        sentence = "\"" + words + "\" ";
    }

    static void due(String call, int got, int want) {
        looked++;
        if (got != want) {
            wrong++;
            System.out.println(sentence + call + " answered " + got + ", due is " + want);
        }
    }

    static void holds(String what, boolean isSo) {
        due(what + " (1 if so)", isSo ? 1 : 0, 1);
    }

    /** An instruction: op, a, b, c. */
    static int[] in(int op, int a, int b, int c) {
        return new int[] {op, a, b, c};
    }

    /** Lays a method anew. */
    static void lay(Desk desk, int m, boolean lent, int[]... instructions) {
        desk.method(m, lent);
        for (int i = 0; i < instructions.length; i++) {
            int[] it = instructions[i];
            due("add " + i + " to method " + m, desk.add(m, it[0], it[1], it[2], it[3]), i + 1);
        }
    }

    /** Runs method 0. */
    static void dueRun(String what, Desk desk, boolean isShort, int want) {
        due(what + ": run " + (isShort ? "short" : "plain"), desk.run(isShort, 0), want);
    }

    /** The counts of objects 1, 2, .. */
    static void dueCounts(String when, Desk desk, int... want) {
        for (int n = 1; n <= want.length; n++) {
            due(when + ": count(" + n + ")", desk.count(n), want[n - 1]);
        }
    }

    static void dueFields(String when, Desk desk, int n, int... want) {
        for (int f = 0; f < want.length; f++) {
            due(when + ": field(" + n + ", " + f + ")", desk.field(n, f), want[f]);
        }
    }

    /** Set 0 to 3 of an instruction, in order. */
    static void dueSets(String when, Desk desk, int m, int i, int... want) {
        for (int what = 0; what < want.length; what++) {
            due(when + ": set(" + m + ", " + i + ", " + what + ")", desk.set(m, i, what), want[what]);
        }
    }

    /** All of state 0 to 9, in order. */
    static void dueState(String when, Desk desk, int... want) {
        for (int what = 0; what < want.length; what++) {
            due(when + ": state(" + what + ")", desk.state(what), want[what]);
        }
    }

    static void dueOuts(String when, Desk desk, int... want) {
        due(when + ": state(0)", desk.state(0), want.length);
        for (int k = 0; k < want.length; k++) {
            due(when + ": out(" + k + ")", desk.out(k), want[k]);
        }
        due(when + ": out behind the last", desk.out(want.length), 0);
    }

    static void dueEnds(String when, Desk desk, int... want) {
        due(when + ": state(1)", desk.state(1), want.length);
        for (int k = 0; k < want.length; k++) {
            due(when + ": ended(" + k + ")", desk.ended(k), want[k]);
        }
        due(when + ": ended behind the last", desk.ended(want.length), 0);
    }

    static void finish() {
        System.out.println(wrong + " of " + looked + " answers are wrong");
        if (wrong != 0) {
            System.exit(1);
        }
    }
}

/**
 * Programs made by a fixed rule, on which the class must answer as the model does, and on which what the
 * document says of counts must hold.
 */
public final class ModelTest {
    private static final int PROGRAMS = 6000;
    private static long seed = 20261115L;

    private static int done = 0;
    private static int failed = 0;
    private static int tooLong = 0;

    public static void main(String[] args) {
        for (int p = 0; p < PROGRAMS; p++) {
            int[][][] methods = new int[4][][];
            boolean[] lent = new boolean[4];
            for (int m = 0; m < 4; m++) {
                methods[m] = someMethod(m);
                lent[m] = below(2) == 0;
            }
            compareAnalysis("program " + p, methods, lent);
            compareRun("program " + p, methods, lent, Checks.PLAIN);
            compareRun("program " + p, methods, lent, Checks.SHORT);
            compareBoth("program " + p, methods, lent);
        }
        System.out.println(done + " done, " + failed + " failed, " + tooLong + " long");
        Checks.holds("runs end in all three ways", done > 1000 && failed > 1000 && tooLong > 200);
        Checks.finish();
    }

    /** Knuth's generator: the same numbers in every run of the test. */
    private static int below(int bound) {
        seed = seed * 6364136223846793005L + 1442695040888963407L;
        return (int) ((seed >>> 33) % bound);
    }

    private static int[][] someMethod(int m) {
        int length = below(12) == 0 ? below(17) : 4 + below(13);
        int variables = 2 + below(5);
        int[][] method = new int[length][];
        for (int i = 0; i < length; i++) {
            // New objects come early, so that not every run fails at once.
            int op = m == 0 && i < 3 && below(4) > 0 ? Checks.NEW : someOp();
            int c = op == Checks.GET || op == Checks.PUT ? below(3)
                    : op == Checks.GO || op == Checks.IFNONE ? below(4) == 0 ? below(16) : someTarget(i)
                    : op == Checks.CALL ? below(4) : below(9) - 3;
            method[i] = Checks.in(op, below(variables), below(variables), c);
        }
        return method;
    }

    private static int someOp() {
        int[] weighted = {0, 0, 0, 1, 1, 2, 3, 3, 3, 4, 4, 4, 5, 5, 6, 7, 8, 9, 9, 10, 11, 11, 11, 12, 13};
        return weighted[below(weighted.length)];
    }

    /** Mostly further on, since jumps back seldom come to an end. */
    private static int someTarget(int i) {
        int target = below(3) == 0 ? i - below(4) : i + 1 + below(4);
        return target < 0 ? 0 : target > 15 ? 15 : target;
    }

    private static Desk desk(int[][][] methods, boolean[] lent) {
        Desk desk = new Desk();
        for (int m = 0; m < 4; m++) {
            Checks.lay(desk, m, lent[m], methods[m]);
        }
        return desk;
    }

    private static void compareAnalysis(String name, int[][][] methods, boolean[] lent) {
        Desk desk = desk(methods, lent);
        Model model = new Model(methods, lent);
        for (int m = 0; m < 4; m++) {
            for (int i = 0; i < methods[m].length; i++) {
                String where = name + ", method " + m + ", instruction " + i;
                for (int what = 0; what < 4; what++) {
                    Checks.due(where + ": set " + what, desk.set(m, i, what), model.set(m, i, what));
                }
                Checks.due(where + ": plan", desk.plan(m, i), model.plan(m, i));
            }
        }
    }

    private static void compareRun(String name, int[][][] methods, boolean[] lent, boolean isShort) {
        String when = name + (isShort ? ", short" : ", plain");
        Model model = new Model(methods, lent);
        int how = model.run(isShort, 0);
        done += how == ArcDesk.DONE ? 1 : 0;
        failed += how == ArcDesk.FAILED ? 1 : 0;
        tooLong += how == ArcDesk.LONG ? 1 : 0;

        // No desk is used for more than 512 calls, so what is asked is spread over some.
        Desk desk = desk(methods, lent);
        Checks.due(when + ": run", desk.run(isShort, 0), how);
        for (int what = 0; what < 10; what++) {
            Checks.due(when + ": state(" + what + ")", desk.state(what), model.state(what));
        }
        for (int k = 0; k < model.outs.size(); k++) {
            Checks.due(when + ": out(" + k + ")", desk.out(k), model.outs.get(k));
        }
        Desk second = desk(methods, lent);
        second.run(isShort, 0);
        for (int k = 0; k < model.ends.size(); k++) {
            Checks.due(when + ": ended(" + k + ")", second.ended(k), model.ends.get(k));
        }
        Desk third = desk(methods, lent);
        third.run(isShort, 0);
        compareThings(when, third, model);
    }

    private static void compareThings(String when, Desk desk, Model model) {
        int sum = 0;
        for (Model.Thing thing : model.things) {
            int n = thing.number;
            int count = desk.count(n);
            sum += count;
            Checks.due(when + ": count(" + n + ")", count, thing.alive ? thing.count : 0);
            for (int f = 0; f < 3 && thing.alive; f++) {
                int want = thing.fields[f] == null ? 0 : thing.fields[f].number;
                Checks.due(when + ": field(" + n + ", " + f + ")", desk.field(n, f), want);
            }
        }
        Checks.due(when + ": counts in all", sum, desk.state(6) + desk.state(2) - desk.state(3));
        Checks.due(when + ": alive", desk.state(5), desk.state(6) - desk.state(1));
        if (desk.state(9) == -1) {
            everyCountIsTrue(when, desk, model);
        }
    }

    /** When all is done, only fields and what was given refer to an object. */
    private static void everyCountIsTrue(String when, Desk desk, Model model) {
        for (Model.Thing thing : model.things) {
            int references = desk.state(7) == thing.number ? 1 : 0;
            for (Model.Thing other : model.things) {
                for (int f = 0; f < 2 && other.alive; f++) {
                    references += other.fields[f] == thing ? 1 : 0;
                }
            }
            Checks.due(when + ": references to " + thing.number, desk.count(thing.number), references);
        }
    }

    /** Where nothing looks at counts or at weak fields, both kinds of runs put out the same. */
    private static void compareBoth(String name, int[][][] methods, boolean[] lent) {
        for (int[][] method : methods) {
            for (int[] it : method) {
                boolean looks = it[0] == Checks.ONLY || it[0] == Checks.OWN || it[0] == Checks.GET && it[3] == 2;
                if (looks) {
                    return;
                }
            }
        }
        Model plain = new Model(methods, lent);
        Model lean = new Model(methods, lent);
        if (plain.run(Checks.PLAIN, 0) == ArcDesk.DONE && lean.run(Checks.SHORT, 0) == ArcDesk.DONE) {
            Checks.holds(name + ": both put out the same", plain.outs.equals(lean.outs));
            Checks.holds(name + ": short counts no more", lean.state(2) <= plain.state(2));
        }
    }
}

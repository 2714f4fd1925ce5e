import java.util.ArrayList;
import java.util.List;

/**
 * Desks that are used for all their 512 calls, chosen by a fixed rule, right and wrong ones mixed: methods change
 * between runs, and each answer must be that of a model that knows only what the calls so far have laid.
 */
public final class CallsTest {
    private static final int DESKS = 400;
    private static final int[] ODD = {-1, -2, 4, 6, 14, 16, 17, 301, 1000, Integer.MIN_VALUE, Integer.MAX_VALUE};
    private static long seed = 20261116L;

    private final Desk desk = new Desk();
    private final String name;
    private final List<List<int[]>> methods = new ArrayList<>();
    private final boolean[] lent = new boolean[4];
    /** The model of the latest run; at first one that has run nothing. */
    private Model latest = new Model(new int[4][0][], new boolean[4]);

    private CallsTest(String name) {
        this.name = name;
        for (int m = 0; m < 4; m++) {
            methods.add(new ArrayList<>());
        }
    }

    public static void main(String[] args) {
        for (int d = 0; d < DESKS; d++) {
            CallsTest test = new CallsTest("desk " + d);
            while (test.desk.left() > 0) {
                test.callOne();
            }
        }
        Checks.finish();
    }

    private static int below(int bound) {
        seed = seed * 6364136223846793005L + 1442695040888963407L;
        return (int) ((seed >>> 33) % bound);
    }

    /** Seldom a number that nothing has. */
    private static int mostlyBelow(int bound) {
        return below(25) == 0 ? ODD[below(ODD.length)] : below(bound);
    }

    private void due(String call, int got, int want) {
        Checks.due(name + ", call " + (512 - desk.left()) + ": " + call, got, want);
    }

    private void callOne() {
        int which = below(100);
        if (which < 3) {
            callMethod();
        } else if (which < 33) {
            callAdd();
        } else if (which < 48) {
            callSet();
        } else if (which < 55) {
            callPlan();
        } else if (which < 65) {
            callRun();
        } else {
            askOfLatest();
        }
    }

    private static boolean isIn(int number, int bound) {
        return number >= 0 && number < bound;
    }

    private void callMethod() {
        int m = mostlyBelow(4);
        boolean isLent = below(2) == 0;
        int want = isIn(m, 4) ? methods.get(m).size() : ArcDesk.BAD;
        due("method(" + m + ", " + isLent + ")", desk.method(m, isLent), want);
        if (isIn(m, 4)) {
            methods.set(m, new ArrayList<>());
            lent[m] = isLent;
        }
    }

    private void callAdd() {
        int m = below(4) > 0 ? below(2) : mostlyBelow(4);
        int op = below(3) == 0 ? Checks.NEW : mostlyBelow(14);
        int a = mostlyBelow(6);
        int b = mostlyBelow(6);
        int c = below(4) == 0 ? mostlyBelow(16) : mostlyBelow(3);
        int want = dueOfAdd(m, op, a, b, c);
        String call = "add(" + m + ", " + op + ", " + a + ", " + b + ", " + c + ")";
        due(call, desk.add(m, op, a, b, c), want);
        if (want > 0) {
            methods.get(m).add(Checks.in(op, a, b, c));
        }
    }

    private int dueOfAdd(int m, int op, int a, int b, int c) {
        // How many numbers each op takes for a, b and c, from 0 on; 0 where it does not look.
        int[] as = {6, 6, 6, 6, 6, 6, 6, 6, 6, 6, 0, 6, 6, 0};
        int[] bs = {0, 6, 0, 6, 6, 0, 0, 0, 0, 0, 0, 6, 0, 0};
        int[] cs = {0, 0, 0, 3, 3, 0, 0, 0, 0, 16, 16, 4, 0, 0};
        if (!isIn(m, 4) || !isIn(op, 14) || as[op] > 0 && !isIn(a, as[op]) || bs[op] > 0 && !isIn(b, bs[op])
                || cs[op] > 0 && !isIn(c, cs[op])) {
            return ArcDesk.BAD;
        }
        return methods.get(m).size() == 16 ? ArcDesk.FULL : methods.get(m).size() + 1;
    }

    private Model model() {
        int[][][] laid = new int[4][][];
        for (int m = 0; m < 4; m++) {
            laid[m] = methods.get(m).toArray(new int[0][]);
        }
        return new Model(laid, lent.clone());
    }

    private boolean isThere(int m, int i) {
        return isIn(m, 4) && isIn(i, methods.get(m).size());
    }

    private void callSet() {
        int m = mostlyBelow(4);
        int i = mostlyBelow(16);
        int what = mostlyBelow(4);
        int want = isThere(m, i) && isIn(what, 4) ? model().set(m, i, what) : ArcDesk.BAD;
        due("set(" + m + ", " + i + ", " + what + ")", desk.set(m, i, what), want);
    }

    private void callPlan() {
        int m = mostlyBelow(4);
        int i = mostlyBelow(16);
        int want = isThere(m, i) ? model().plan(m, i) : ArcDesk.BAD;
        due("plan(" + m + ", " + i + ")", desk.plan(m, i), want);
    }

    private void callRun() {
        int m = mostlyBelow(4);
        boolean isShort = below(2) == 0;
        int want = ArcDesk.BAD;
        if (isIn(m, 4)) {
            latest = model();
            want = latest.run(isShort, m);
        }
        due("run(" + isShort + ", " + m + ")", desk.run(isShort, m), want);
    }

    private void askOfLatest() {
        switch (below(5)) {
            case 0:
                askNumber("out", latest.outs);
                break;
            case 1:
                askNumber("ended", latest.ends);
                break;
            case 2:
                int n = mostlyBelow(latest.things.size() + 3);
                due("count(" + n + ")", desk.count(n), isAlive(n) ? latest.things.get(n - 1).count : 0);
                break;
            case 3:
                askField();
                break;
            default:
                int what = mostlyBelow(10);
                due("state(" + what + ")", desk.state(what), isIn(what, 10) ? latest.state(what) : ArcDesk.BAD);
                break;
        }
    }

    private void askNumber(String call, List<Integer> numbers) {
        int k = mostlyBelow(numbers.size() + 3);
        int got = call.equals("out") ? desk.out(k) : desk.ended(k);
        due(call + "(" + k + ")", got, isIn(k, numbers.size()) ? numbers.get(k) : 0);
    }

    private boolean isAlive(int n) {
        return n > 0 && n <= latest.things.size() && latest.things.get(n - 1).alive;
    }

    private void askField() {
        int n = mostlyBelow(latest.things.size() + 3);
        int f = mostlyBelow(3);
        Model.Thing found = isAlive(n) && isIn(f, 3) ? latest.things.get(n - 1).fields[f] : null;
        due("field(" + n + ", " + f + ")", desk.field(n, f), found == null ? 0 : found.number);
    }
}

import java.util.ArrayList;
import java.util.HashSet;
import java.util.List;
import java.util.Set;

/**
 * The document's terms written down a second time and another way: with objects, recursion and one search
 * for each question, where the program goes round sets of bits. Slow, and only for comparing.
 */
final class Model {
    private static final int NEW = Checks.NEW, COPY = Checks.COPY, NONE = Checks.NONE, GET = Checks.GET;
    private static final int PUT = Checks.PUT, OUT = Checks.OUT, ADD = Checks.ADD, ONLY = Checks.ONLY;
    private static final int OWN = Checks.OWN, IFNONE = Checks.IFNONE, GO = Checks.GO, CALL = Checks.CALL;
    private static final int GIVE = Checks.GIVE, END = Checks.END;

    static final class Thing {
        int number;
        int value;
        int count = 1;
        boolean alive = true;
        final Thing[] fields = new Thing[3];
    }

    private static final class Frame {
        int m;
        int at;
        final Thing[] held = new Thing[6];
        final boolean[] loan = new boolean[6];
    }

    /** How a run that is not done stops. */
    private static final class Stop extends RuntimeException {
        private static final long serialVersionUID = 1L;
        final int how;

        Stop(int how) {
            this.how = how;
        }
    }

    final int[][][] methods;
    final boolean[] lent;

    final List<Integer> outs = new ArrayList<>();
    final List<Integer> ends = new ArrayList<>();
    final List<Thing> things = new ArrayList<>();
    private final List<Frame> frames = new ArrayList<>();
    private int counted;
    private int lowered;
    private int begun;
    private Thing given;
    private int stoppedAt = -1;
    private boolean isShort;

    Model(int[][][] methods, boolean[] lent) {
        this.methods = methods;
        this.lent = lent;
    }

    // What is found without running.

    private static boolean isOneOf(int op, int... ops) {
        for (int each : ops) {
            if (each == op) {
                return true;
            }
        }
        return false;
    }

    private boolean reads(int[] it, int v) {
        return isOneOf(it[0], COPY, GET, PUT, CALL) && it[2] == v
                || isOneOf(it[0], PUT, OUT, ADD, ONLY, OWN, IFNONE, GIVE) && it[1] == v;
    }

    private boolean writes(int[] it, int v) {
        return isOneOf(it[0], NEW, COPY, NONE, GET, OWN, CALL) && it[1] == v;
    }

    boolean hasWayBehind(int m, int i) {
        return !isOneOf(methods[m][i][0], GO, GIVE, END);
    }

    boolean hasJump(int m, int i) {
        return isOneOf(methods[m][i][0], GO, IFNONE);
    }

    private List<Integer> ways(int m, int i) {
        List<Integer> ways = new ArrayList<>();
        if (hasWayBehind(m, i) && i + 1 < methods[m].length) {
            ways.add(i + 1);
        }
        if (hasJump(m, i) && methods[m][i][3] < methods[m].length) {
            ways.add(methods[m][i][3]);
        }
        return ways;
    }

    boolean isNeeded(int m, int i, int v) {
        return i < methods[m].length && isRead(m, i, v, new HashSet<>());
    }

    private boolean isRead(int m, int i, int v, Set<Integer> seen) {
        if (!seen.add(i)) {
            return false;
        }
        if (reads(methods[m][i], v)) {
            return true;
        }
        if (writes(methods[m][i], v)) {
            return false;
        }
        for (int way : ways(m, i)) {
            if (isRead(m, way, v, seen)) {
                return true;
            }
        }
        return false;
    }

    int plan(int m, int i) {
        int[] it = methods[m][i];
        if (it[0] == GET && it[3] != 2 && it[1] != it[2] && staysLent(m, i, i, new HashSet<>())) {
            return 1;
        }
        boolean neededBehind = isNeeded(m, i + 1, it[2]);
        if (isOneOf(it[0], COPY, PUT) && it[1] != it[2] && !neededBehind && !(it[0] == PUT && it[3] == 2)) {
            return 2;
        }
        if (it[0] == CALL && !lent[it[3]] && (!neededBehind || it[1] == it[2])) {
            return 2;
        }
        return 0;
    }

    private boolean staysLent(int m, int get, int from, Set<Integer> seen) {
        int a = methods[m][get][1];
        for (int way : ways(m, from)) {
            if (!isNeeded(m, way, a) || !seen.add(way)) {
                continue;
            }
            if (!isOneOf(methods[m][way][0], OUT, ADD, ONLY, IFNONE, GO)) {
                return false;
            }
            for (int v = 0; v < 6; v++) {
                if (v != a && isNeeded(m, get, v) && !isNeeded(m, way, v)) {
                    return false;
                }
            }
            if (!staysLent(m, get, way, seen)) {
                return false;
            }
        }
        return true;
    }

    private boolean isReached(int m, int i) {
        Set<Integer> seen = new HashSet<>();
        follow(m, 0, seen);
        return seen.contains(i);
    }

    private void follow(int m, int i, Set<Integer> seen) {
        if (seen.add(i)) {
            for (int way : ways(m, i)) {
                follow(m, way, seen);
            }
        }
    }

    /** Whether v may be counted behind i, when v may or may not be so in front of it. */
    private boolean isKeptBehind(int m, int i, int v, boolean before) {
        int[] it = methods[m][i];
        int plan = plan(m, i);
        boolean kept = before && !(plan == 2 && it[2] == v);
        if (it[1] == v && (isOneOf(it[0], NEW, COPY, OWN, CALL) || it[0] == GET && plan != 1)) {
            kept = true;
        }
        if (it[1] == v && (it[0] == NONE || it[0] == GET && plan == 1)) {
            kept = false;
        }
        return kept;
    }

    /** Searches each variable alone, from each place where it can come to those that keep. */
    boolean isKeeping(int m, int i, int v) {
        Set<Integer> kept = new HashSet<>();
        if (v == 0 && !lent[m] && isNeeded(m, 0, 0)) {
            keepOn(m, 0, v, kept);
        }
        for (int j = 0; j < methods[m].length; j++) {
            if (isReached(m, j) && isKeptBehind(m, j, v, false)) {
                for (int way : ways(m, j)) {
                    if (isNeeded(m, way, v)) {
                        keepOn(m, way, v, kept);
                    }
                }
            }
        }
        return kept.contains(i);
    }

    private void keepOn(int m, int i, int v, Set<Integer> kept) {
        if (kept.add(i) && isKeptBehind(m, i, v, true)) {
            for (int way : ways(m, i)) {
                if (isNeeded(m, way, v)) {
                    keepOn(m, way, v, kept);
                }
            }
        }
    }

    int set(int m, int i, int what) {
        if (what == 2 && !hasWayBehind(m, i) || what == 3 && !hasJump(m, i)) {
            return -1;
        }
        int sum = 0;
        for (int v = 0; v < 6; v++) {
            boolean isIn;
            if (what == 0) {
                isIn = isNeeded(m, i, v);
            } else if (what == 1) {
                isIn = isKeeping(m, i, v);
            } else {
                int target = what == 2 ? i + 1 : methods[m][i][3];
                isIn = isReached(m, i) && isKeptBehind(m, i, v, isKeeping(m, i, v)) && !isNeeded(m, target, v);
            }
            sum += isIn ? 1 << v : 0;
        }
        return sum;
    }

    // Running.

    int run(boolean isShort, int m) {
        this.isShort = isShort;
        try {
            if (methods[m].length == 0) {
                Frame frame = new Frame();
                frame.m = m;
                frames.add(frame);
                throw new Stop(1);
            }
            given = called(m, null, false);
            return 0;
        } catch (Stop stop) {
            Frame top = frames.get(frames.size() - 1);
            stoppedAt = 16 * top.m + top.at;
            return stop.how;
        }
    }

    int state(int what) {
        int alive = 0;
        for (Thing thing : things) {
            alive += thing.alive ? 1 : 0;
        }
        int[] all = {outs.size(), ends.size(), counted, lowered, begun, alive, things.size(),
            given == null ? 0 : given.number, frames.size(), stoppedAt};
        return all[what];
    }

    private Thing called(int m, Thing with, boolean onLoan) {
        Frame frame = new Frame();
        frame.m = m;
        frame.held[0] = with;
        frame.loan[0] = onLoan;
        frames.add(frame);
        Thing gift = null;
        while (frame.at < methods[m].length) {
            if (isShort) {
                for (int v = 0; v < 6; v++) {
                    if (!isNeeded(m, frame.at, v)) {
                        gets(frame, v, null, false);
                    }
                }
            }
            if (begun == 300) {
                throw new Stop(2);
            }
            begun++;
            int[] it = methods[m][frame.at];
            if (it[0] == END) {
                break;
            }
            if (it[0] == GIVE) {
                gift = frame.held[it[1]];
                if (isShort && !frame.loan[it[1]]) {
                    frame.held[it[1]] = null;
                } else {
                    count(gift);
                }
                break;
            }
            frame.at = does(frame, it);
        }
        for (int v = 0; v < 6; v++) {
            gets(frame, v, null, false);
        }
        frames.remove(frames.size() - 1);
        return gift;
    }

    /** Where the method goes on. */
    private int does(Frame frame, int[] it) {
        int a = it[1];
        int b = it[2];
        int c = it[3];
        Thing object = isOneOf(it[0], GO) ? null : frame.held[a];
        if (it[0] == GO) {
            return c;
        }
        if (it[0] == IFNONE) {
            return object == null ? c : frame.at + 1;
        }
        boolean isOnly = object != null && object.count == 1 && !frame.loan[a];
        if (it[0] == NEW) {
            gets(frame, a, made(c), false);
        } else if (it[0] == COPY) {
            gets(frame, a, passed(frame, it), false);
        } else if (it[0] == NONE) {
            gets(frame, a, null, false);
        } else if (it[0] == GET) {
            failIf(frame.held[b] == null);
            Thing found = frame.held[b].fields[c];
            boolean isLoan = isShort && plan(frame.m, frame.at) == 1;
            if (!isLoan) {
                count(found);
            }
            gets(frame, a, found, isLoan);
        } else if (it[0] == PUT) {
            failIf(object == null);
            Thing before = object.fields[c];
            if (c == 2) {
                object.fields[2] = frame.held[b];
            } else {
                object.fields[c] = passed(frame, it);
                letGo(before);
            }
        } else if (it[0] == OUT) {
            outs.add(object == null ? 0 : object.value);
        } else if (it[0] == ADD) {
            failIf(object == null);
            object.value += c;
        } else if (it[0] == ONLY) {
            outs.add(isOnly ? 1 : 0);
        } else if (it[0] == OWN) {
            if (object != null && !isOnly) {
                Thing own = made(object.value);
                for (int f = 0; f < 3; f++) {
                    own.fields[f] = object.fields[f];
                }
                count(own.fields[0]);
                count(own.fields[1]);
                gets(frame, a, own, false);
            }
        } else if (it[0] == CALL) {
            failIf(frames.size() == 6 || methods[c].length == 0);
            boolean isLoan = isShort && lent[c];
            Thing with = isLoan ? frame.held[b] : passed(frame, it);
            gets(frame, a, called(c, with, isLoan), false);
        }
        return frame.at + 1;
    }

    private void failIf(boolean isSo) {
        if (isSo) {
            throw new Stop(1);
        }
    }

    private Thing made(int value) {
        failIf(state(5) == 24);
        Thing thing = new Thing();
        things.add(thing);
        thing.number = things.size();
        thing.value = value;
        return thing;
    }

    private Thing passed(Frame frame, int[] it) {
        Thing object = frame.held[it[2]];
        if (isShort && plan(frame.m, frame.at) == 2 && !frame.loan[it[2]]) {
            frame.held[it[2]] = null;
        } else {
            count(object);
        }
        return object;
    }

    private void gets(Frame frame, int v, Thing object, boolean isLoan) {
        Thing before = frame.held[v];
        boolean wasLoan = frame.loan[v];
        frame.held[v] = object;
        frame.loan[v] = isLoan;
        if (!wasLoan) {
            letGo(before);
        }
    }

    private void count(Thing object) {
        if (object != null) {
            if (!object.alive) {
                throw new IllegalStateException("counted after its end");
            }
            object.count++;
            counted++;
        }
    }

    private void letGo(Thing object) {
        if (object == null) {
            return;
        }
        if (!object.alive) {
            throw new IllegalStateException("let go after its end");
        }
        object.count--;
        lowered++;
        if (object.count > 0) {
            return;
        }
        object.alive = false;
        ends.add(object.number);
        for (Thing thing : things) {
            if (thing.fields[2] == object) {
                thing.fields[2] = null;
            }
        }
        for (int f = 0; f < 2; f++) {
            Thing inField = object.fields[f];
            object.fields[f] = null;
            letGo(inField);
        }
    }
}

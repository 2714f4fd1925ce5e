/**
 * A desk that leaves out counting of references: it finds how long what a variable holds is needed,
 * where references can be handed over or lent, and runs methods with all that and without.
 *
 * Sets of variables are ints with bit v for variable v. Instruction i of method m is at m * 16 + i in
 * the arrays of instructions, variable v of the call at depth d at d * 6 + v in those of variables.
 * Object 0 stands for nothing.
 */
public final class ArcDesk {
    public static final int BAD = -1, FULL = -2, DONE = 0, FAILED = 1, LONG = 2;

    private static final int NEW = 0, COPY = 1, NONE = 2, GET = 3, PUT = 4, OUT = 5, ADD = 6;
    private static final int ONLY = 7, OWN = 8, IFNONE = 9, GO = 10, CALL = 11, GIVE = 12, END = 13;

    private static final int METHODS = 4, LENGTH = 16, VARIABLES = 6, FIELDS = 3, WEAK = 2;
    private static final int MOST_ALIVE = 24, MOST_CALLS = 6, MOST_BEGUN = 300;
    /** What plan answers. */
    private static final int COUNTS = 0, LOAN = 1, HANDS_OVER = 2;
    /** One instruction makes one object at most, and object 0 is none. */
    private static final int OBJECTS = MOST_BEGUN + 1;
    /** Each object that ends brings two references more; at most 24 can end at once. */
    private static final int PENDING = 2 * MOST_ALIVE + 1;
    private static final int ALL_INSTRUCTIONS = METHODS * LENGTH;
    private static final int ALL_VARIABLES = MOST_CALLS * VARIABLES;
    private static final int ALL_FIELDS = OBJECTS * FIELDS;

    private final int[] size = new int[METHODS];
    private final boolean[] takesLent = new boolean[METHODS];
    private final int[] opOf = new int[ALL_INSTRUCTIONS];
    private final int[] argA = new int[ALL_INSTRUCTIONS];
    private final int[] argB = new int[ALL_INSTRUCTIONS];
    private final int[] argC = new int[ALL_INSTRUCTIONS];

    private final int[] needed = new int[ALL_INSTRUCTIONS];
    private final int[] plans = new int[ALL_INSTRUCTIONS];
    private final int[] keeping = new int[ALL_INSTRUCTIONS];
    private final boolean[] reached = new boolean[ALL_INSTRUCTIONS];

    private final int[] methodOf = new int[MOST_CALLS];
    private final int[] at = new int[MOST_CALLS];
    private final int[] held = new int[ALL_VARIABLES];
    private final boolean[] onLoan = new boolean[ALL_VARIABLES];

    private final int[] value = new int[OBJECTS];
    private final int[] references = new int[OBJECTS];
    private final boolean[] alive = new boolean[OBJECTS];
    private final int[] fields = new int[ALL_FIELDS];
    private final int[] pending = new int[PENDING];

    private final int[] outs = new int[MOST_BEGUN];
    private final int[] ends = new int[OBJECTS];
    private int outMany = 0, endMany = 0, upMany = 0, downMany = 0, begun = 0;
    private int aliveMany = 0, made = 0, given = 0, calls = 0, stoppedAt = -1;
    private boolean shortRun = false;

    public ArcDesk() {
    }

    public int method(int m, boolean lent) {
        if (m < 0 || m >= METHODS) {
            return BAD;
        }
        int had = size[m];
        size[m] = 0;
        takesLent[m] = lent;
        return had;
    }

    public int add(int m, int op, int a, int b, int c) {
        if (m < 0 || m >= METHODS || op < NEW || op > END) {
            return BAD;
        }
        boolean looksAtA = op != GO && op != END;
        boolean looksAtB = op == COPY || op == GET || op == PUT || op == CALL;
        int mostC = greatestC(op);
        if (looksAtA && (a < 0 || a >= VARIABLES) || looksAtB && (b < 0 || b >= VARIABLES)
                || mostC >= 0 && (c < 0 || c > mostC)) {
            return BAD;
        }
        if (size[m] >= LENGTH) {
            return FULL;
        }
        int k = m * LENGTH + size[m];
        opOf[k] = op;
        // What is not looked at may be any int, and must never become an index.
        argA[k] = looksAtA ? a : 0;
        argB[k] = looksAtB ? b : 0;
        argC[k] = c;
        size[m]++;
        return size[m];
    }

    public int set(int m, int i, int what) {
        if (!isThere(m, i) || what < 0 || what > 3) {
            return BAD;
        }
        int k = m * LENGTH + i;
        if (what == 2 && !leadsBehind(k) || what == 3 && !jumps(k)) {
            return BAD;
        }
        analyse(m);
        if (what == 0) {
            return needed[k];
        }
        if (!reached[k]) {
            return 0;
        }
        if (what == 1) {
            return keeping[k];
        }
        int target = what == 2 ? i + 1 : argC[k];
        return keptBehind(k) & ~neededAt(m, target);
    }

    public int plan(int m, int i) {
        if (!isThere(m, i)) {
            return BAD;
        }
        analyse(m);
        return plans[m * LENGTH + i];
    }

    public int run(boolean isShort, int m) {
        if (m < 0 || m >= METHODS) {
            return BAD;
        }
        for (int each = 0; each < METHODS; each++) {
            analyse(each);
        }
        forgetRun();
        shortRun = isShort;
        enter(m, 0, false);
        int how = size[m] == 0 ? FAILED : DONE;
        for (int step = 0; step <= MOST_BEGUN && how == DONE && calls > 0; step++) {
            settle();
            if (calls > 0 && begun >= MOST_BEGUN) {
                how = LONG;
            } else if (calls > 0) {
                begun++;
                how = perform() ? DONE : FAILED;
            }
        }
        stoppedAt = how == DONE ? -1 : LENGTH * methodOf[calls - 1] + at[calls - 1];
        return how;
    }

    public int out(int k) {
        return k < 0 || k >= outMany ? 0 : outs[k];
    }

    public int ended(int k) {
        return k < 0 || k >= endMany ? 0 : ends[k];
    }

    public int count(int n) {
        return isAlive(n) ? references[n] : 0;
    }

    public int field(int n, int f) {
        return isAlive(n) && f >= 0 && f < FIELDS ? fields[n * FIELDS + f] : 0;
    }

    public int state(int what) {
        switch (what) {
            case 0: return outMany;
            case 1: return endMany;
            case 2: return upMany;
            case 3: return downMany;
            case 4: return begun;
            case 5: return aliveMany;
            case 6: return made;
            case 7: return given;
            case 8: return calls;
            case 9: return stoppedAt;
            default: return BAD;
        }
    }

    /** The greatest c that an instruction takes, -1 if it takes any. */
    private int greatestC(int anOp) {
        switch (anOp) {
            case GET: case PUT: return FIELDS - 1;
            case IFNONE: case GO: return LENGTH - 1;
            case CALL: return METHODS - 1;
            default: return -1;
        }
    }

    private boolean isThere(int m, int i) {
        return m >= 0 && m < METHODS && i >= 0 && i < size[m];
    }

    private boolean isAlive(int n) {
        return n > 0 && n <= made && alive[n];
    }

    // What is found without running.

    private void analyse(int m) {
        findNeeded(m);
        for (int i = 0; i < size[m]; i++) {
            int k = m * LENGTH + i;
            plans[k] = isLoan(m, i) ? LOAN : handsOver(m, i) ? HANDS_OVER : COUNTS;
        }
        findKeeping(m);
    }

    private int readBy(int k) {
        switch (opOf[k]) {
            case COPY: case GET: case CALL:
                return 1 << argB[k];
            case PUT:
                return 1 << argA[k] | 1 << argB[k];
            case OUT: case ADD: case ONLY: case OWN: case IFNONE: case GIVE:
                return 1 << argA[k];
            default:
                return 0;
        }
    }

    private int writtenBy(int k) {
        switch (opOf[k]) {
            case NEW: case COPY: case NONE: case GET: case OWN: case CALL:
                return 1 << argA[k];
            default:
                return 0;
        }
    }

    private boolean leadsBehind(int k) {
        return opOf[k] != GO && opOf[k] != GIVE && opOf[k] != END;
    }

    private boolean jumps(int k) {
        return opOf[k] == IFNONE || opOf[k] == GO;
    }

    /** Jumps may lead to any place behind the last instruction, where nothing is needed. */
    private int neededAt(int m, int i) {
        return i < size[m] ? needed[m * LENGTH + i] : 0;
    }

    private int neededBehind(int m, int i) {
        int k = m * LENGTH + i;
        int found = leadsBehind(k) ? neededAt(m, i + 1) : 0;
        return jumps(k) ? found | neededAt(m, argC[k]) : found;
    }

    private void findNeeded(int m) {
        for (int i = 0; i < size[m]; i++) {
            needed[m * LENGTH + i] = 0;
        }
        boolean isNew = true;
        // Every round but the last puts a variable into one of the sets.
        for (int round = 0; round <= LENGTH * VARIABLES && isNew; round++) {
            isNew = false;
            for (int i = size[m] - 1; i >= 0; i--) {
                int k = m * LENGTH + i;
                int found = readBy(k) | neededBehind(m, i) & ~writtenBy(k);
                isNew = isNew || found != needed[k];
                needed[k] = found;
            }
        }
    }

    /** The instructions to which one leads, as a set with bit i for instruction i. */
    private int waysFrom(int k) {
        int i = k % LENGTH;
        int ways = leadsBehind(k) ? 1 << (i + 1) : 0;
        return jumps(k) ? ways | 1 << argC[k] : ways;
    }

    private boolean leavesLoansAlone(int k) {
        return opOf[k] == OUT || opOf[k] == ADD || opOf[k] == ONLY || opOf[k] == IFNONE || opOf[k] == GO;
    }

    private boolean isLoan(int m, int i) {
        int get = m * LENGTH + i;
        if (opOf[get] != GET || argC[get] == WEAK || argA[get] == argB[get]) {
            return false;
        }
        int lent = 1 << argA[get];
        int others = needed[get] & ~lent;
        int ways = waysFrom(get);
        // Every round follows the ways one instruction further, at least.
        for (int round = 0; round < LENGTH; round++) {
            for (int j = 0; j < size[m]; j++) {
                int k = m * LENGTH + j;
                if ((ways & 1 << j) != 0 && (needed[k] & lent) != 0) {
                    if (!leavesLoansAlone(k) || (others & ~needed[k]) != 0) {
                        return false;
                    }
                    ways |= waysFrom(k);
                }
            }
        }
        return true;
    }

    private boolean handsOver(int m, int i) {
        int k = m * LENGTH + i;
        boolean same = argA[k] == argB[k];
        boolean last = (neededAt(m, i + 1) & 1 << argB[k]) == 0;
        switch (opOf[k]) {
            case COPY:
                return last && !same;
            case PUT:
                return last && !same && argC[k] != WEAK;
            case CALL:
                return (last || same) && !takesLent[argC[k]];
            default:
                return false;
        }
    }

    private int keptBehind(int k) {
        int a = 1 << argA[k];
        int kept = plans[k] == HANDS_OVER ? keeping[k] & ~(1 << argB[k]) : keeping[k];
        switch (opOf[k]) {
            case NEW: case COPY: case OWN: case CALL:
                return kept | a;
            case GET:
                return plans[k] == LOAN ? kept & ~a : kept | a;
            case NONE:
                return kept & ~a;
            default:
                return kept;
        }
    }

    private void findKeeping(int m) {
        for (int i = 0; i < size[m]; i++) {
            keeping[m * LENGTH + i] = 0;
            reached[m * LENGTH + i] = false;
        }
        int first = takesLent[m] ? 0 : 1;
        boolean isNew = reach(m, 0, first);
        // Every round but the last reaches an instruction or puts a variable into one of the sets.
        for (int round = 0; round <= LENGTH * (VARIABLES + 1) && isNew; round++) {
            isNew = false;
            for (int i = 0; i < size[m]; i++) {
                int k = m * LENGTH + i;
                int kept = keptBehind(k);
                if (reached[k] && leadsBehind(k)) {
                    isNew |= reach(m, i + 1, kept);
                }
                if (reached[k] && jumps(k)) {
                    isNew |= reach(m, argC[k], kept);
                }
            }
        }
    }

    /** A way leads to instruction i with these variables: whether that tells anything new. */
    private boolean reach(int m, int i, int kept) {
        if (i >= size[m]) {
            return false;
        }
        int k = m * LENGTH + i;
        int all = keeping[k] | kept & needed[k];
        boolean isNew = !reached[k] || all != keeping[k];
        reached[k] = true;
        keeping[k] = all;
        return isNew;
    }

    // Running.

    private void forgetRun() {
        outMany = 0;
        endMany = 0;
        upMany = 0;
        downMany = 0;
        begun = 0;
        aliveMany = 0;
        made = 0;
        given = 0;
        calls = 0;
    }

    private void enter(int m, int object, boolean isLent) {
        int base = calls * VARIABLES;
        for (int v = 0; v < VARIABLES; v++) {
            held[base + v] = 0;
            onLoan[base + v] = false;
        }
        held[base] = object;
        onLoan[base] = isLent;
        methodOf[calls] = m;
        at[calls] = 0;
        calls++;
    }

    /** Goes on where the latest instruction led to; methods that are behind their last one end. */
    private void settle() {
        boolean isBehind = true;
        for (int round = 0; round < MOST_CALLS && isBehind && calls > 0; round++) {
            int m = methodOf[calls - 1];
            int i = at[calls - 1];
            isBehind = i >= size[m];
            if (isBehind) {
                leave(0);
            } else if (shortRun) {
                letGoAllBut(needed[m * LENGTH + i]);
            }
        }
    }

    /** Does the instruction that is due: false, with nothing changed, if it fails. */
    private boolean perform() {
        int top = calls - 1;
        int k = methodOf[top] * LENGTH + at[top];
        int a = top * VARIABLES + argA[k];
        int b = top * VARIABLES + argB[k];
        boolean works = true;
        switch (opOf[k]) {
            case NEW: works = makeNew(k, a); break;
            case COPY: copyVariable(k, a, b); break;
            case NONE: fill(a, 0, false); break;
            case GET: works = getField(k, a, b); break;
            case PUT: works = putField(k, a, b); break;
            case OUT: putOut(value[held[a]]); break;
            case ADD: works = addInt(k, a); break;
            case ONLY: putOnly(a); break;
            case OWN: works = ownObject(a); break;
            case IFNONE: at[top] = held[a] == 0 ? argC[k] : at[top] + 1; return true;
            case GO: at[top] = argC[k]; return true;
            case CALL: return startCall(k, b);
            case GIVE: int gift = take(a, true); leave(gift); return true;
            default: leave(0); return true;
        }
        if (works) {
            at[top]++;
        }
        return works;
    }

    private boolean makeNew(int k, int a) {
        if (aliveMany >= MOST_ALIVE) {
            return false;
        }
        int object = makeObject(argC[k]);
        fill(a, object, false);
        return true;
    }

    private void copyVariable(int k, int a, int b) {
        int object = take(b, plans[k] == HANDS_OVER);
        fill(a, object, false);
    }

    private boolean getField(int k, int a, int b) {
        if (held[b] == 0) {
            return false;
        }
        int object = fields[held[b] * FIELDS + argC[k]];
        boolean isLent = shortRun && plans[k] == LOAN;
        if (!isLent) {
            countUp(object);
        }
        fill(a, object, isLent);
        return true;
    }

    private boolean putField(int k, int a, int b) {
        if (held[a] == 0) {
            return false;
        }
        int place = held[a] * FIELDS + argC[k];
        if (argC[k] == WEAK) {
            fields[place] = held[b];
            return true;
        }
        int before = fields[place];
        fields[place] = take(b, plans[k] == HANDS_OVER);
        letGo(before);
        return true;
    }

    private void putOut(int number) {
        outs[outMany] = number;
        outMany++;
    }

    private void putOnly(int a) {
        int only = isOnly(a) ? 1 : 0;
        putOut(only);
    }

    private boolean addInt(int k, int a) {
        if (held[a] == 0) {
            return false;
        }
        value[held[a]] += argC[k];
        return true;
    }

    private boolean isOnly(int a) {
        return held[a] != 0 && references[held[a]] == 1 && !onLoan[a];
    }

    private boolean ownObject(int a) {
        int shared = held[a];
        if (shared == 0 || isOnly(a)) {
            return true;
        }
        if (aliveMany >= MOST_ALIVE) {
            return false;
        }
        int object = makeObject(value[shared]);
        for (int f = 0; f < FIELDS; f++) {
            int inField = fields[shared * FIELDS + f];
            fields[object * FIELDS + f] = inField;
            if (f != WEAK) {
                countUp(inField);
            }
        }
        fill(a, object, false);
        return true;
    }

    private boolean startCall(int k, int b) {
        int callee = argC[k];
        if (calls >= MOST_CALLS || size[callee] == 0) {
            return false;
        }
        boolean isLent = shortRun && takesLent[callee];
        int object = isLent ? held[b] : take(b, plans[k] == HANDS_OVER);
        enter(callee, object, isLent);
        return true;
    }

    /** The method that was called last ends; the gift has its count already. */
    private void leave(int gift) {
        letGoAllBut(0);
        calls--;
        if (calls == 0) {
            given = gift;
            return;
        }
        int top = calls - 1;
        int call = methodOf[top] * LENGTH + at[top];
        fill(top * VARIABLES + argA[call], gift, false);
        at[top]++;
    }

    /** What a variable holds, for another place: handed over if that may be, else counted. */
    private int take(int variable, boolean mayHandOver) {
        int object = held[variable];
        if (shortRun && mayHandOver && !onLoan[variable]) {
            held[variable] = 0;
        } else {
            countUp(object);
        }
        return object;
    }

    private void letGoAllBut(int kept) {
        int base = (calls - 1) * VARIABLES;
        for (int v = 0; v < VARIABLES; v++) {
            if ((kept & 1 << v) == 0) {
                int before = emptied(base + v);
                letGo(before);
            }
        }
    }

    /** A variable gets an object whose reference is counted already, or lent. */
    private void fill(int variable, int object, boolean isLent) {
        int before = emptied(variable);
        held[variable] = object;
        onLoan[variable] = isLent;
        letGo(before);
    }

    /** Takes what a variable holds out of it: what is to be let go for that. */
    private int emptied(int variable) {
        int counted = onLoan[variable] ? 0 : held[variable];
        held[variable] = 0;
        onLoan[variable] = false;
        return counted;
    }

    private int makeObject(int number) {
        made++;
        aliveMany++;
        value[made] = number;
        references[made] = 1;
        alive[made] = true;
        for (int f = 0; f < FIELDS; f++) {
            fields[made * FIELDS + f] = 0;
        }
        return made;
    }

    private void countUp(int object) {
        if (object != 0) {
            references[object]++;
            upMany++;
        }
    }

    private void letGo(int first) {
        int waiting = 1;
        pending[0] = first;
        for (int step = 0; step < PENDING && waiting > 0; step++) {
            waiting--;
            int object = pending[waiting];
            if (object != 0) {
                references[object]--;
                downMany++;
            }
            if (object != 0 && references[object] == 0) {
                markEnded(object);
                // Field 0 lies on top, so that all that ends by it ends before field 1 is let go.
                pending[waiting] = fields[object * FIELDS + 1];
                pending[waiting + 1] = fields[object * FIELDS];
                waiting += 2;
            }
        }
    }

    private void markEnded(int object) {
        alive[object] = false;
        aliveMany--;
        ends[endMany] = object;
        endMany++;
        for (int n = 1; n <= made; n++) {
            if (fields[n * FIELDS + WEAK] == object) {
                fields[n * FIELDS + WEAK] = 0;
            }
        }
    }
}

/** Lays methods out for a small device, finds and checks the types of their places, and runs them. */
public final class MapDesk {
    public static final int OK = 0, SHAPE = 1, TYPE = 2, BAD = -1, FULL = -2;
    public static final int FALL = 1, CAUGHT = 2, NEEDS = 3, JUMP = 4;
    public static final int RETURNED = 0, GIVEN = 1, THROWN = 2, LONG = 3, STUCK = 4;

    private static final int CONST = 0, NONE = 1, LOAD = 2, STORE = 3, POP = 4, DUP = 5, SWAP = 6;
    private static final int ADD = 7, MAKE = 8, INIT = 9, CAST = 10, USE = 11, GO = 12, IF = 13;
    private static final int IFNULL = 14, JSR = 15, RET = 16, RETURN = 17, GIVE = 18, THROW = 19;

    private static final int TOP = 0, INT = 1, NULL = 2, CLASS_0 = 3, NEW_0 = 11, LINK_0 = 51;
    private static final int LAST_CLASS = 10, LAST_TYPE = 90;

    private static final int CLASSES = 8, LOCALS = 4, STACK = 6, SLOTS = 10;
    private static final int MOST_CODE = 24, MOST_HANDLERS = 4, MOST_CALLS = 3, MOST_PLACES = 40;
    private static final int ALL_SLOTS = 400;
    private static final int MOST_BEGUN = 200;
    /** Four that the LOCALS begin with, and each instruction of a RUN makes at most one. */
    private static final int MOST_OBJECTS = 204;
    private static final int FAR = 1000000;

    /**
     * A key is a place in one number, made so that the order of keys is the order of places:
     * how many CALLS, the first, the second, the third (0 where there is none), the instruction.
     */
    private static final int FIELD = 31, FIELD_BITS = 5, COUNT_SHIFT = 20, ONE_CALL = 1 << COUNT_SHIFT;

    private static final int ENDS_BEHIND = 1, TOO_FEW = 2, TOO_HIGH = 3, CALLED_AGAIN = 4;
    private static final int NO_CALL = 5, UNEQUAL = 6, TOO_MANY = 7;

    private static final int NO_VALUE = 0, NUMBER = 1, NOTHING = 2, OBJECT = 3, LINK = 4;
    private static final int ERROR_OF_CAST = 1, ERROR_OF_NOTHING = 2;
    private static final int GOING = -1;

    private final int[] parent = new int[CLASSES];
    private final int[] entry = new int[LOCALS];
    private final int[] code = new int[MOST_CODE];
    private final int[] operand = new int[MOST_CODE];
    private int codeCount = 0;
    private final int[] coverFrom = new int[MOST_HANDLERS];
    private final int[] coverTo = new int[MOST_HANDLERS];
    private final int[] coverTarget = new int[MOST_HANDLERS];
    private final int[] coverClass = new int[MOST_HANDLERS];
    private int coverCount = 0;

    /** Nothing is laid out exactly when there are no places. */
    private int placeCount = 0;
    private final int[] placeKey = new int[MOST_PLACES];
    private final int[] placeDepth = new int[MOST_PLACES];
    /** Sets of numbers of values, a bit each: those that came to a place, those that led on from it. */
    private final int[] cameWith = new int[MOST_PLACES];
    private final int[] ledWith = new int[MOST_PLACES];
    private final int[] faults = new int[MOST_PLACES];
    private boolean tooMany = false;
    private int layAnswer = BAD;
    private int wrongKind = 0;
    private int wrongKey = -1;

    private final int[] found = new int[ALL_SLOTS];
    private final boolean[] hasFound = new boolean[MOST_PLACES];
    private final int[] kept = new int[ALL_SLOTS];
    private final boolean[] hasMap = new boolean[MOST_PLACES];
    private boolean grown = false;

    private final int[] frame = new int[SLOTS];
    private int frameDepth = 0;
    private boolean frameThere = false;
    private int lastReason = 0;

    /** LOCALS and STACK of a RUN; a value is an int, the number of an OBJECT, or that of a JSR. */
    private final int[] kind = new int[SLOTS];
    private final int[] value = new int[SLOTS];
    private int valueDepth = 0;
    private final int[] objectClass = new int[MOST_OBJECTS];
    private final boolean[] objectReady = new boolean[MOST_OBJECTS];
    private int objectCount = 0;
    private boolean hasRun = false;
    private int begun = 0;
    private int nowAt = 0;
    private int endClass = -1;

    public MapDesk() {
    }

    public boolean kin(int c, int p) {
        if (c < 1 || c >= CLASSES || p < 0 || p >= c) {
            return false;
        }
        parent[c] = p;
        endLayout();
        return true;
    }

    public boolean enter(int local, int type) {
        if (local < 0 || local >= LOCALS || type < TOP || type > LAST_CLASS) {
            return false;
        }
        entry[local] = type;
        endLayout();
        return true;
    }

    public int add(int op, int a) {
        if (op < CONST || op > THROW || !isOperand(op, a)) {
            return BAD;
        }
        if (codeCount >= MOST_CODE) {
            return FULL;
        }
        code[codeCount] = op;
        operand[codeCount] = a;
        codeCount++;
        endLayout();
        return codeCount;
    }

    public int handler(int from, int to, int target, int c) {
        if (from < 0 || from >= to || to > MOST_CODE) {
            return BAD;
        }
        if (target < 0 || target >= MOST_CODE || c < 0 || c >= CLASSES) {
            return BAD;
        }
        if (coverCount >= MOST_HANDLERS) {
            return FULL;
        }
        coverFrom[coverCount] = from;
        coverTo[coverCount] = to;
        coverTarget[coverCount] = target;
        coverClass[coverCount] = c;
        coverCount++;
        endLayout();
        return coverCount;
    }

    public int clear() {
        int were = codeCount;
        codeCount = 0;
        coverCount = 0;
        endLayout();
        return were;
    }

    public int lay() {
        endLayout();
        lastReason = 0;
        wrongKind = 0;
        wrongKey = -1;
        layAnswer = BAD;
        if (leadsOutside()) {
            return layAnswer;
        }
        comeToPlaces();
        noteFirstWrong();
        if (wrongKind != 0) {
            endLayout();
            layAnswer = SHAPE;
            return layAnswer;
        }
        sortPlaces();
        markMaps();
        layAnswer = findTypes() ? OK : TYPE;
        fillMaps();
        return layAnswer;
    }

    public int wrong(int what) {
        if (layAnswer != SHAPE) {
            return -1;
        }
        if (what == 0) {
            return wrongKind;
        }
        if (wrongKey < 0) {
            return -1;
        }
        if (what == 1) {
            return wrongKey & FIELD;
        }
        return callOf(wrongKey, what - 2);
    }

    public int places() {
        return placeCount;
    }

    public int place(int k, int what) {
        if (k < 0 || k >= placeCount) {
            return -1;
        }
        if (what == 0) {
            return placeKey[k] & FIELD;
        }
        if (what == 1) {
            return placeDepth[k];
        }
        if (what == 6) {
            return hasMap[k] ? 1 : 0;
        }
        return callOf(placeKey[k], what - 2);
    }

    public int type(int k, int slot) {
        if (layAnswer != OK || !isSlot(k, slot)) {
            return -1;
        }
        return found[k * SLOTS + slot];
    }

    public int map(int k, int slot) {
        if (!isSlot(k, slot) || !hasMap[k]) {
            return -1;
        }
        return kept[k * SLOTS + slot];
    }

    public boolean alter(int k, int slot, int type) {
        if (!isSlot(k, slot) || !hasMap[k] || type < TOP || type > LAST_TYPE) {
            return false;
        }
        kept[k * SLOTS + slot] = type;
        return true;
    }

    public int check() {
        lastReason = 0;
        if (placeCount == 0) {
            return -2;
        }
        beginFrame();
        for (int k = 0; k < MOST_PLACES && k < placeCount; k++) {
            lastReason = reasonAt(k);
            if (lastReason != 0) {
                return k;
            }
        }
        return -1;
    }

    public int reason() {
        return lastReason;
    }

    public int run(int most) {
        if (most < 1 || most > MOST_BEGUN || leadsOutside()) {
            return BAD;
        }
        beginValues();
        int how = GOING;
        // One turn more than instructions may be begun: the last one tells LONG.
        for (int turn = 0; turn <= MOST_BEGUN && how == GOING; turn++) {
            if (nowAt >= codeCount) {
                how = STUCK;
            } else if (begun >= most) {
                how = LONG;
            } else {
                begun++;
                how = begin(nowAt);
            }
        }
        return how;
    }

    public int ended(int what) {
        if (!hasRun) {
            return -1;
        }
        if (what == 0) {
            return begun;
        }
        if (what == 1) {
            return nowAt;
        }
        return what == 2 ? endClass : -1;
    }

    public int held(int local, boolean number) {
        if (local < 0 || local >= LOCALS || !hasRun) {
            return number ? 0 : -1;
        }
        int held = value[local];
        if (number) {
            return kind[local] == NUMBER ? held : 0;
        }
        if (kind[local] == LINK) {
            return LINK_0 + held;
        }
        if (kind[local] != OBJECT) {
            return kind[local];
        }
        return (objectReady[held] ? CLASS_0 : NEW_0) + objectClass[held];
    }

    // ---- what instructions are ----

    private static boolean isOperand(int op, int a) {
        switch (op) {
            case LOAD: case STORE: case RET:
                return a >= 0 && a < LOCALS;
            case MAKE: case CAST: case USE: case GIVE:
                return a >= 0 && a < CLASSES;
            case GO: case IF: case IFNULL: case JSR:
                return a >= 0 && a < MOST_CODE;
            default:
                return true;
        }
    }

    private static int takes(int op) {
        switch (op) {
            case SWAP: case ADD:
                return 2;
            case STORE: case POP: case DUP: case INIT: case CAST: case USE:
            case IF: case IFNULL: case GIVE: case THROW:
                return 1;
            default:
                return 0;
        }
    }

    private static int puts(int op) {
        switch (op) {
            case DUP: case SWAP:
                return 2;
            case CONST: case NONE: case LOAD: case ADD: case MAKE: case CAST: case JSR:
                return 1;
            default:
                return 0;
        }
    }

    private static boolean goesBehind(int op) {
        return op < GO || op == IF || op == IFNULL;
    }

    private boolean covers(int h, int at) {
        return coverFrom[h] <= at && at < coverTo[h];
    }

    /** Instructions that no place comes to count, too. */
    private boolean leadsOutside() {
        for (int i = 0; i < MOST_CODE && i < codeCount; i++) {
            boolean jumps = code[i] >= GO && code[i] <= JSR;
            if (jumps && operand[i] >= codeCount) {
                return true;
            }
        }
        for (int h = 0; h < MOST_HANDLERS && h < coverCount; h++) {
            if (coverTarget[h] >= codeCount) {
                return true;
            }
        }
        return codeCount == 0;
    }

    /** What wrong and reason answer outlives the layout, so it is not touched here. */
    private void endLayout() {
        placeCount = 0;
    }

    // ---- keys of places ----

    /** With index 0 how many CALLS there are, with 1..3 the CALLS; -1 if there is none. */
    private static int callOf(int key, int index) {
        int calls = key >> COUNT_SHIFT;
        if (index == 0) {
            return calls;
        }
        if (index < 0 || index > calls) {
            return -1;
        }
        return (key >> (COUNT_SHIFT - FIELD_BITS * index)) & FIELD;
    }

    private static boolean isCalled(int key, int jsr) {
        int calls = key >> COUNT_SHIFT;
        for (int index = 1; index <= MOST_CALLS && index <= calls; index++) {
            if (callOf(key, index) == jsr) {
                return true;
            }
        }
        return false;
    }

    /** The place of the JSR that made the last CALL; -1 without CALLS. */
    private static int callerKey(int key) {
        int calls = key >> COUNT_SHIFT;
        if (calls == 0) {
            return -1;
        }
        int shift = COUNT_SHIFT - FIELD_BITS * calls;
        int jsr = (key >> shift) & FIELD;
        return key - ONE_CALL - (jsr << shift) - (key & FIELD) + jsr;
    }

    /** Where a place leads by its jump; -1 if it has none. */
    private int jumpKey(int key) {
        int at = key & FIELD;
        int calls = key >> COUNT_SHIFT;
        switch (code[at]) {
            case GO: case IF: case IFNULL:
                return key - at + operand[at];
            case JSR:
                int shift = COUNT_SHIFT - FIELD_BITS * (calls + 1);
                return calls >= MOST_CALLS ? -1 : key + ONE_CALL + (at << shift) - at + operand[at];
            case RET:
                return calls == 0 ? -1 : callerKey(key) + 1;
            default:
                return -1;
        }
    }

    private int caughtKey(int key, int h) {
        return key - (key & FIELD) + coverTarget[h];
    }

    private int placeOf(int key) {
        for (int k = 0; k < MOST_PLACES && k < placeCount; k++) {
            if (placeKey[k] == key) {
                return k;
            }
        }
        return -1;
    }

    // ---- shape ----

    private void comeToPlaces() {
        tooMany = false;
        comeTo(0, 0);
        boolean more = true;
        for (int pass = 0; pass < FAR && more && !tooMany; pass++) {
            more = false;
            for (int k = 0; k < MOST_PLACES && k < placeCount; k++) {
                for (int depth = 0; depth <= STACK; depth++) {
                    int bit = 1 << depth;
                    if ((cameWith[k] & ~ledWith[k] & bit) != 0) {
                        ledWith[k] |= bit;
                        more = true;
                        leadOn(k, depth);
                    }
                }
            }
        }
    }

    private void comeTo(int key, int depth) {
        int k = placeOf(key);
        if (k < 0) {
            if (placeCount >= MOST_PLACES) {
                tooMany = true;
                return;
            }
            k = placeCount;
            placeCount++;
            placeKey[k] = key;
            placeDepth[k] = depth;
            cameWith[k] = 0;
            ledWith[k] = 0;
            faults[k] = 0;
        }
        cameWith[k] |= 1 << depth;
    }

    private void leadOn(int k, int depth) {
        int key = placeKey[k];
        int at = key & FIELD;
        int here = faultsOf(key, depth);
        faults[k] |= here;
        if (here != 0) {
            return;
        }
        int after = depth - takes(code[at]) + puts(code[at]);
        int jump = jumpKey(key);
        if (jump >= 0) {
            comeTo(jump, after);
        }
        if (goesBehind(code[at])) {
            comeTo(key + 1, after);
        }
        for (int h = 0; h < MOST_HANDLERS && h < coverCount; h++) {
            if (covers(h, at)) {
                int target = caughtKey(key, h);
                comeTo(target, 1);
            }
        }
    }

    /** All that is WRONG with so many values, a bit each. */
    private int faultsOf(int key, int depth) {
        int at = key & FIELD;
        int op = code[at];
        int calls = key >> COUNT_SHIFT;
        int left = depth - takes(op);
        int bits = 0;
        int behind = goesBehind(op) ? at + 1 : 0;
        if (op == RET && calls > 0) {
            behind = (callerKey(key) & FIELD) + 1;
        }
        if (behind >= codeCount) {
            bits |= 1 << ENDS_BEHIND;
        }
        if (left < 0) {
            bits |= 1 << TOO_FEW;
        }
        if (left + puts(op) > STACK) {
            bits |= 1 << TOO_HIGH;
        }
        if (op == JSR && (calls >= MOST_CALLS || isCalled(key, at))) {
            bits |= 1 << CALLED_AGAIN;
        }
        if (op == RET && calls == 0) {
            bits |= 1 << NO_CALL;
        }
        return bits;
    }

    private void noteFirstWrong() {
        if (tooMany) {
            wrongKind = TOO_MANY;
            return;
        }
        for (int k = 0; k < MOST_PLACES && k < placeCount; k++) {
            int bits = faults[k];
            if ((cameWith[k] & (cameWith[k] - 1)) != 0) {
                bits |= 1 << UNEQUAL;
            }
            if (bits != 0 && (wrongKind == 0 || placeKey[k] < wrongKey)) {
                wrongKey = placeKey[k];
                wrongKind = lowestBit(bits);
            }
        }
    }

    private static int lowestBit(int bits) {
        for (int n = ENDS_BEHIND; n < UNEQUAL; n++) {
            if ((bits & (1 << n)) != 0) {
                return n;
            }
        }
        return UNEQUAL;
    }

    private void sortPlaces() {
        for (int end = 1; end < MOST_PLACES && end < placeCount; end++) {
            int key = placeKey[end];
            int depth = placeDepth[end];
            int k = end;
            for (; k > 0 && placeKey[k - 1] > key; k--) {
                placeKey[k] = placeKey[k - 1];
                placeDepth[k] = placeDepth[k - 1];
            }
            placeKey[k] = key;
            placeDepth[k] = depth;
        }
    }

    // ---- maps ----

    private boolean isSlot(int k, int slot) {
        return k >= 0 && k < placeCount && slot >= 0 && slot < LOCALS + placeDepth[k];
    }

    private void markMaps() {
        for (int k = 0; k < MOST_PLACES; k++) {
            hasMap[k] = false;
        }
        for (int k = 0; k < MOST_PLACES && k < placeCount; k++) {
            int key = placeKey[k];
            int jump = jumpKey(key);
            markMap(jump);
            for (int h = 0; h < MOST_HANDLERS && h < coverCount; h++) {
                if (covers(h, key & FIELD)) {
                    int target = caughtKey(key, h);
                    markMap(target);
                }
            }
        }
    }

    private void markMap(int key) {
        int k = placeOf(key);
        if (k >= 0) {
            hasMap[k] = true;
        }
    }

    private void fillMaps() {
        for (int i = 0; i < ALL_SLOTS; i++) {
            kept[i] = layAnswer == OK ? found[i] : TOP;
        }
    }

    // ---- types ----

    /** Whether type one FITS type two. */
    private boolean fits(int one, int two) {
        if (one == two || two == TOP) {
            return true;
        }
        if (two < CLASS_0 || two > LAST_CLASS) {
            return false;
        }
        if (one == NULL) {
            return true;
        }
        return one >= CLASS_0 && one <= LAST_CLASS && isUnder(one - CLASS_0, two - CLASS_0);
    }

    /** Whether class c is class p, or p an ancestor of it. */
    private boolean isUnder(int c, int p) {
        int up = c;
        for (int step = 0; step < CLASSES && up > p; step++) {
            up = parent[up];
        }
        return up == p;
    }

    private int join(int one, int two) {
        if (one == two) {
            return one;
        }
        boolean classOne = one >= CLASS_0 && one <= LAST_CLASS;
        boolean classTwo = two >= CLASS_0 && two <= LAST_CLASS;
        if (one == NULL && classTwo) {
            return two;
        }
        if (two == NULL && classOne) {
            return one;
        }
        if (!classOne || !classTwo) {
            return TOP;
        }
        int c = one - CLASS_0;
        int d = two - CLASS_0;
        // A parent has a lower number, so the higher of the two is never the one looked for.
        for (int step = 0; step < 2 * CLASSES && c != d; step++) {
            if (c > d) {
                c = parent[c];
            } else {
                d = parent[d];
            }
        }
        return CLASS_0 + c;
    }

    private void beginFrame() {
        for (int local = 0; local < LOCALS; local++) {
            frame[local] = entry[local];
        }
        frameDepth = 0;
        frameThere = true;
    }

    /** False if the types are somewhere not as needed. */
    private boolean findTypes() {
        for (int k = 0; k < MOST_PLACES; k++) {
            hasFound[k] = false;
        }
        beginFrame();
        giveFrame(0);
        for (int round = 0; round < FAR && grown; round++) {
            grown = false;
            for (int k = 0; k < MOST_PLACES && k < placeCount; k++) {
                if (hasFound[k] && !giveOn(k)) {
                    return false;
                }
            }
        }
        return true;
    }

    /** Gives what place k makes to all to which it leads; false if the types are not as needed. */
    private boolean giveOn(int k) {
        int key = placeKey[k];
        int at = key & FIELD;
        loadFrame(found, k);
        for (int h = 0; h < MOST_HANDLERS && h < coverCount; h++) {
            if (covers(h, at)) {
                // What is on the stack does not go there, so its lowest slot is borrowed.
                frame[LOCALS] = CLASS_0 + coverClass[h];
                int target = caughtKey(key, h);
                int p = placeOf(target);
                giveFrame(p);
            }
        }
        loadFrame(found, k);
        if (!meetsNeeds(k)) {
            return false;
        }
        changeFrame(k);
        int jump = jumpKey(key);
        int p = placeOf(jump);
        giveFrame(p);
        if (goesBehind(code[at])) {
            giveFrame(k + 1);
        }
        return true;
    }

    private void loadFrame(int[] from, int k) {
        for (int slot = 0; slot < SLOTS; slot++) {
            frame[slot] = from[k * SLOTS + slot];
        }
        frameDepth = placeDepth[k];
    }

    private void giveFrame(int p) {
        if (p < 0 || p >= placeCount) {
            return;
        }
        int slots = LOCALS + placeDepth[p];
        for (int slot = 0; slot < SLOTS && slot < slots; slot++) {
            int i = p * SLOTS + slot;
            int had = found[i];
            found[i] = hasFound[p] ? join(had, frame[slot]) : frame[slot];
            if (found[i] != had) {
                grown = true;
            }
        }
        if (!hasFound[p]) {
            hasFound[p] = true;
            grown = true;
        }
    }

    /** The class that the MAKE of a NEW makes; -1 if it is no NEW, or there is no MAKE. */
    private int madeClass(int type) {
        int p = type - NEW_0;
        if (p < 0 || p >= placeCount) {
            return -1;
        }
        int at = placeKey[p] & FIELD;
        return code[at] == MAKE ? operand[at] : -1;
    }

    private boolean isOnStack(int type) {
        for (int i = 0; i < STACK && i < frameDepth; i++) {
            if (frame[LOCALS + i] == type) {
                return true;
            }
        }
        return false;
    }

    private boolean isLinkOf(int type, int key) {
        int caller = callerKey(key);
        int p = placeOf(caller);
        return p >= 0 && type == LINK_0 + p;
    }

    /** Whether the types of the frame are as the instruction of place k needs them. */
    private boolean meetsNeeds(int k) {
        int key = placeKey[k];
        int at = key & FIELD;
        int a = operand[at];
        int top = LOCALS + frameDepth - 1;
        switch (code[at]) {
            case LOAD:
                return frame[a] != TOP && frame[a] < LINK_0;
            case ADD:
                return frame[top] == INT && frame[top - 1] == INT;
            case MAKE:
                return !isOnStack(NEW_0 + k);
            case INIT:
                return madeClass(frame[top]) >= 0;
            case CAST: case IFNULL: case THROW:
                return frame[top] >= NULL && frame[top] <= LAST_CLASS;
            case USE: case GIVE:
                return fits(frame[top], CLASS_0 + a);
            case IF:
                return frame[top] == INT;
            case RET:
                return isLinkOf(frame[a], key);
            default:
                return true;
        }
    }

    /** Makes of the frame what the instruction of place k makes of it. */
    private void changeFrame(int k) {
        int at = placeKey[k] & FIELD;
        int op = code[at];
        int a = operand[at];
        int top = LOCALS + frameDepth - 1;
        int onTop = frame[top];
        frameDepth += puts(op) - takes(op);
        switch (op) {
            case CONST:
                frame[top + 1] = INT;
                break;
            case NONE:
                frame[top + 1] = NULL;
                break;
            case LOAD:
                frame[top + 1] = frame[a];
                break;
            case STORE:
                frame[a] = onTop;
                break;
            case DUP:
                frame[top + 1] = onTop;
                break;
            case SWAP:
                frame[top] = frame[top - 1];
                frame[top - 1] = onTop;
                break;
            case MAKE:
                replace(NEW_0 + k, TOP);
                frame[top + 1] = NEW_0 + k;
                break;
            case INIT:
                int made = madeClass(onTop);
                replace(onTop, CLASS_0 + made);
                break;
            case CAST:
                frame[top] = CLASS_0 + a;
                break;
            case JSR:
                frame[top + 1] = LINK_0 + k;
                break;
            default:
                break;
        }
    }

    private void replace(int old, int by) {
        for (int slot = 0; slot < SLOTS; slot++) {
            if (frame[slot] == old) {
                frame[slot] = by;
            }
        }
    }

    // ---- the one pass ----

    /** What is first not so at place k, 0 if all is; the frame is made that for the next place. */
    private int reasonAt(int k) {
        int key = placeKey[k];
        int at = key & FIELD;
        if (hasMap[k]) {
            if (frameThere && !fitsMap(k)) {
                return FALL;
            }
            loadFrame(kept, k);
        }
        for (int h = 0; h < MOST_HANDLERS && h < coverCount; h++) {
            if (covers(h, at) && !fitsCaught(key, h)) {
                return CAUGHT;
            }
        }
        if (!meetsNeeds(k)) {
            return NEEDS;
        }
        changeFrame(k);
        int jump = jumpKey(key);
        int p = placeOf(jump);
        if (p >= 0 && !fitsMap(p)) {
            return JUMP;
        }
        frameThere = goesBehind(code[at]);
        return 0;
    }

    private boolean fitsMap(int p) {
        int slots = LOCALS + placeDepth[p];
        for (int slot = 0; slot < SLOTS && slot < slots; slot++) {
            if (!fits(frame[slot], kept[p * SLOTS + slot])) {
                return false;
            }
        }
        return true;
    }

    private boolean fitsCaught(int key, int h) {
        int target = caughtKey(key, h);
        int p = placeOf(target);
        if (p < 0) {
            return false;
        }
        for (int local = 0; local < LOCALS; local++) {
            if (!fits(frame[local], kept[p * SLOTS + local])) {
                return false;
            }
        }
        return fits(CLASS_0 + coverClass[h], kept[p * SLOTS + LOCALS]);
    }

    // ---- runs ----

    private void beginValues() {
        hasRun = true;
        begun = 0;
        nowAt = 0;
        endClass = -1;
        valueDepth = 0;
        objectCount = 0;
        for (int local = 0; local < LOCALS; local++) {
            int type = entry[local];
            value[local] = 0;
            if (type >= CLASS_0) {
                kind[local] = OBJECT;
                value[local] = makeObject(type - CLASS_0, true);
            } else if (type == NULL) {
                kind[local] = NOTHING;
            } else {
                kind[local] = type == INT ? NUMBER : NO_VALUE;
            }
        }
    }

    private int makeObject(int c, boolean ready) {
        int made = objectCount;
        if (made >= MOST_OBJECTS) {
            return 0;
        }
        objectClass[made] = c;
        objectReady[made] = ready;
        objectCount++;
        return made;
    }

    /** How the RUN ends with this instruction, or GOING. */
    private int begin(int at) {
        if (!findsNeeds(at)) {
            return STUCK;
        }
        int raised = raisedAt(at);
        if (raised >= 0) {
            return raise(at, raised);
        }
        if (code[at] == RETURN) {
            return RETURNED;
        }
        if (code[at] == GIVE) {
            int top = LOCALS + valueDepth - 1;
            endClass = kind[top] == OBJECT ? objectClass[value[top]] : -1;
            return GIVEN;
        }
        // Before the values change, as IF and IFNULL look at what they take.
        nowAt = nextOf(at);
        changeValues(at);
        return GOING;
    }

    private boolean findsNeeds(int at) {
        int op = code[at];
        int a = operand[at];
        int left = valueDepth - takes(op);
        if (left < 0 || left + puts(op) > STACK) {
            return false;
        }
        int top = LOCALS + valueDepth - 1;
        switch (op) {
            case LOAD:
                return kind[a] != NO_VALUE && kind[a] != LINK;
            case ADD:
                return kind[top] == NUMBER && kind[top - 1] == NUMBER;
            case INIT:
                return kind[top] == OBJECT && !objectReady[value[top]];
            case CAST: case IFNULL: case THROW:
                return isReference(top);
            case USE: case GIVE:
                return isReference(top) && isOfClass(top, a);
            case IF:
                return kind[top] == NUMBER;
            case RET:
                return kind[a] == LINK;
            default:
                return true;
        }
    }

    private boolean isReference(int slot) {
        return kind[slot] == NOTHING || kind[slot] == OBJECT && objectReady[value[slot]];
    }

    private boolean isOfClass(int slot, int c) {
        return kind[slot] != OBJECT || isUnder(objectClass[value[slot]], c);
    }

    /** The OBJECT that leaves the instruction, which has found what it needs, for a HANDLER; -1 if none. */
    private int raisedAt(int at) {
        int op = code[at];
        int top = LOCALS + valueDepth - 1;
        if (op == CAST && !isOfClass(top, operand[at])) {
            return makeObject(ERROR_OF_CAST, true);
        }
        if ((op == USE || op == THROW) && kind[top] == NOTHING) {
            return makeObject(ERROR_OF_NOTHING, true);
        }
        return op == THROW ? value[top] : -1;
    }

    private int raise(int at, int object) {
        int c = objectClass[object];
        for (int h = 0; h < MOST_HANDLERS && h < coverCount; h++) {
            if (covers(h, at) && isUnder(c, coverClass[h])) {
                kind[LOCALS] = OBJECT;
                value[LOCALS] = object;
                valueDepth = 1;
                nowAt = coverTarget[h];
                return GOING;
            }
        }
        endClass = c;
        return THROWN;
    }

    private int nextOf(int at) {
        int a = operand[at];
        int top = LOCALS + valueDepth - 1;
        switch (code[at]) {
            case GO: case JSR:
                return a;
            case IF:
                return value[top] != 0 ? a : at + 1;
            case IFNULL:
                return kind[top] == NOTHING ? a : at + 1;
            case RET:
                return value[a] + 1;
            default:
                return at + 1;
        }
    }

    private void changeValues(int at) {
        int op = code[at];
        int a = operand[at];
        int top = LOCALS + valueDepth - 1;
        valueDepth += puts(op) - takes(op);
        switch (op) {
            case CONST:
                setValue(top + 1, NUMBER, a);
                break;
            case NONE:
                setValue(top + 1, NOTHING, 0);
                break;
            case LOAD:
                setValue(top + 1, kind[a], value[a]);
                break;
            case STORE:
                setValue(a, kind[top], value[top]);
                break;
            case DUP:
                setValue(top + 1, kind[top], value[top]);
                break;
            case SWAP:
                int kindBelow = kind[top - 1];
                int valueBelow = value[top - 1];
                setValue(top - 1, kind[top], value[top]);
                setValue(top, kindBelow, valueBelow);
                break;
            case ADD:
                value[top - 1] += value[top];
                break;
            case MAKE:
                int made = makeObject(a, false);
                setValue(top + 1, OBJECT, made);
                break;
            case INIT:
                objectReady[value[top]] = true;
                break;
            case JSR:
                setValue(top + 1, LINK, at);
                break;
            default:
                break;
        }
    }

    private void setValue(int slot, int newKind, int newValue) {
        kind[slot] = newKind;
        value[slot] = newValue;
    }
}

/** Formulas about calls on a stack, and advice that is given at calls and returns where its formula holds. */
public final class CallAdvice {
    private static final int CLASSES = 8;
    private static final int METHODS = 16;
    private static final int NAMES = 10;
    private static final int MARKS = 4;
    private static final int MARK_SETS = 1 << MARKS;
    private static final int MOST_TIMES = 5;
    private static final int MOST_CALLS = 20;
    private static final int MOST_FORMULAS = 6;
    private static final int MOST_TOKENS = 16;
    private static final int MOST_PIECES = 6;
    private static final int PIECE_TOKENS = MOST_PIECES * MOST_TOKENS;
    private static final int KEPT = 64;
    private static final int LIST_MASK = KEPT - 1;

    private static final int NO_PARENT = -1;

    private static final int BEFORE = 0;
    private static final int AFTER = 1;

    private static final int NAME = 0;
    private static final int CLASS = 1;
    private static final int KIN = 2;
    private static final int MARK = 3;
    private static final int BY = 4;
    private static final int DEEP = 5;
    private static final int FLOW = 6;
    private static final int BELOW = 7;
    private static final int SINCE = 8;
    private static final int TIMES = 9;
    private static final int NOT = 10;
    private static final int AND = 11;
    private static final int OR = 12;
    private static final int ONLY = 13;

    private final int[] parentOf = new int[CLASSES];
    private final int[] classOf = new int[METHODS];
    private final int[] nameOf = new int[METHODS];
    private final int[] marksOf = new int[METHODS];

    private final int[] stack = new int[MOST_CALLS];
    private int calls;

    private final int[] draftKind = new int[MOST_TOKENS];
    private final int[] draftArgument = new int[MOST_TOKENS];
    private int draftTokens;
    private int draftFormulas;

    // The tokens of piece p begin at p * MOST_TOKENS.
    private final int[] pieceKind = new int[PIECE_TOKENS];
    private final int[] pieceArgument = new int[PIECE_TOKENS];
    private final int[] pieceTokens = new int[MOST_PIECES];
    private final int[] pieceTime = new int[MOST_PIECES];
    private final int[] pieceCount = new int[MOST_PIECES];
    private int pieces;

    // A ring: the n-th number given, from 0, stands at n modulo KEPT.
    private final int[] list = new int[KEPT];
    private int listed;

    // Sets of calls, the binary digit i for call i, while a formula is worked out.
    private final int[] sets = new int[MOST_FORMULAS];

    public CallAdvice() {
        for (int kind = 0; kind < CLASSES; kind++) {
            parentOf[kind] = NO_PARENT;
        }
    }

    public int derive(int kind, int parent) {
        if (kind < 0 || kind >= CLASSES || parent < NO_PARENT || parent >= kind) {
            return -1;
        }
        if (calls > 0) {
            return -2;
        }
        int parentBefore = parentOf[kind];
        parentOf[kind] = parent;
        return parentBefore;
    }

    public int define(int method, int kind, int name, int marks) {
        if (!isMethod(method)) {
            return -1;
        }
        if (kind < 0 || kind >= CLASSES || name < 0 || name >= NAMES || marks < 0 || marks >= MARK_SETS) {
            return -3;
        }
        if (calls > 0) {
            return -2;
        }
        classOf[method] = kind;
        nameOf[method] = name;
        marksOf[method] = marks;
        return 1;
    }

    public int token(int kind, int a) {
        if (kind < NAME || kind > ONLY || !isArgument(kind, a)) {
            return -1;
        }
        if (draftTokens >= MOST_TOKENS) {
            return -2;
        }
        int taken = formulasTaken(kind);
        if (draftFormulas < taken) {
            return -3;
        }
        if (taken == 0 && draftFormulas >= MOST_FORMULAS) {
            return -4;
        }
        draftKind[draftTokens] = kind;
        draftArgument[draftTokens] = a;
        draftTokens++;
        draftFormulas += 1 - taken;
        return draftFormulas;
    }

    public int clear() {
        int formulas = draftFormulas;
        emptyDraft();
        return formulas;
    }

    public int advise(int time) {
        if (time != BEFORE && time != AFTER) {
            return -1;
        }
        if (draftFormulas != 1) {
            return -2;
        }
        if (pieces >= MOST_PIECES) {
            return -3;
        }
        if (calls > 0) {
            return -4;
        }
        int piece = pieces;
        copyDraftTo(piece);
        pieceTime[piece] = time;
        pieceCount[piece] = 0;
        pieces++;
        emptyDraft();
        return piece;
    }

    public int drop() {
        if (pieces == 0) {
            return -1;
        }
        if (calls > 0) {
            return -2;
        }
        pieces--;
        return pieces;
    }

    public int call(int method) {
        if (!isMethod(method)) {
            return -1;
        }
        if (calls >= MOST_CALLS) {
            return -2;
        }
        stack[calls] = method;
        calls++;
        int listedBefore = listed;
        for (int piece = 0; piece < pieces; piece++) {
            int where = callsWhereHolds(piece, calls);
            if (pieceTime[piece] == BEFORE && hasCall(where, calls - 1)) {
                give(piece);
            }
        }
        return listed - listedBefore;
    }

    public int giveBack() {
        if (calls == 0) {
            return -1;
        }
        int listedBefore = listed;
        for (int piece = pieces - 1; piece >= 0; piece--) {
            int where = callsWhereHolds(piece, calls);
            if (pieceTime[piece] == AFTER && hasCall(where, calls - 1)) {
                give(piece);
            }
        }
        calls--;
        return listed - listedBefore;
    }

    public int unwind() {
        int returned = calls;
        calls = 0;
        return returned;
    }

    public int depth() {
        return calls;
    }

    public int methodAt(int i) {
        return isCall(i) ? stack[i] : -1;
    }

    public int holds(int piece, int i) {
        if (!isPiece(piece)) {
            return -1;
        }
        if (!isCall(i)) {
            return -2;
        }
        int where = callsWhereHolds(piece, calls);
        return hasCall(where, i) ? 1 : 0;
    }

    public int given() {
        return listed;
    }

    public int count(int piece) {
        return isPiece(piece) ? pieceCount[piece] : -1;
    }

    public int last(int k) {
        if (k < 0 || k >= KEPT || k >= listed) {
            return -1;
        }
        return list[(listed - 1 - k) & LIST_MASK];
    }

    public int wouldHold(int piece, int method) {
        if (!isPiece(piece)) {
            return -1;
        }
        if (!isMethod(method) || calls >= MOST_CALLS) {
            return -2;
        }
        // The place above the last call is free, so trying a method there changes nothing.
        stack[calls] = method;
        int where = callsWhereHolds(piece, calls + 1);
        return hasCall(where, calls) ? 1 : 0;
    }

    public int would(int piece) {
        if (!isPiece(piece)) {
            return -1;
        }
        if (calls >= MOST_CALLS) {
            return -2;
        }
        int methods = 0;
        for (int method = 0; method < METHODS; method++) {
            stack[calls] = method;
            int where = callsWhereHolds(piece, calls + 1);
            if (hasCall(where, calls)) {
                methods |= 1 << method;
            }
        }
        return methods;
    }

    private boolean isMethod(int method) {
        return method >= 0 && method < METHODS;
    }

    private boolean isCall(int i) {
        return i >= 0 && i < calls;
    }

    private boolean isPiece(int piece) {
        return piece >= 0 && piece < pieces;
    }

    private boolean isArgument(int kind, int a) {
        switch (kind) {
            case NAME:
                return a >= 0 && a < NAMES;
            case CLASS:
            case KIN:
            case BY:
                return a >= 0 && a < CLASSES;
            case MARK:
                return a >= 0 && a < MARKS;
            case DEEP:
                return a >= 0 && a <= MOST_CALLS;
            case TIMES:
                return a >= 1 && a <= MOST_TIMES;
            default:
                return true;
        }
    }

    private int formulasTaken(int kind) {
        if (kind <= DEEP) {
            return 0;
        }
        return kind == SINCE || kind == AND || kind == OR ? 2 : 1;
    }

    private void emptyDraft() {
        draftTokens = 0;
        draftFormulas = 0;
    }

    private void copyDraftTo(int piece) {
        int start = piece * MOST_TOKENS;
        for (int t = 0; t < draftTokens; t++) {
            pieceKind[start + t] = draftKind[t];
            pieceArgument[start + t] = draftArgument[t];
        }
        pieceTokens[piece] = draftTokens;
    }

    private void give(int piece) {
        list[listed & LIST_MASK] = piece;
        listed++;
        pieceCount[piece]++;
    }

    private boolean hasCall(int set, int i) {
        return (set >> i & 1) == 1;
    }

    /**
     * The set of those of the first calls, size of them, where a piece's formula holds. No formula looks at a call
     * above the one where it is asked, so one walk over the tokens serves all the calls at once.
     */
    private int callsWhereHolds(int piece, int size) {
        int start = piece * MOST_TOKENS;
        int end = start + pieceTokens[piece];
        int formulas = 0;
        for (int t = start; t < end; t++) {
            int kind = pieceKind[t];
            int a = pieceArgument[t];
            // The draft refused every token that would lead out of the sets.
            int taken = formulasTaken(kind);
            formulas += 1 - taken;
            int top = formulas - 1;
            if (taken == 0) {
                sets[top] = callsWithTrait(kind, a, size);
            } else if (taken == 1) {
                sets[top] = callsFromOne(kind, a, sets[top], size);
            } else {
                sets[top] = callsFromTwo(kind, sets[top], sets[top + 1], size);
            }
        }
        return sets[0];
    }

    private int callsWithTrait(int kind, int a, int size) {
        int found = 0;
        for (int i = 0; i < size; i++) {
            if (hasTrait(kind, a, i)) {
                found |= 1 << i;
            }
        }
        return found;
    }

    private boolean hasTrait(int kind, int a, int i) {
        int method = stack[i];
        switch (kind) {
            case NAME:
                return nameOf[method] == a;
            case CLASS:
                return classOf[method] == a;
            case KIN:
                return isUnder(classOf[method], a);
            case MARK:
                return (marksOf[method] >> a & 1) == 1;
            case BY:
                return i > 0 && isUnder(classOf[stack[i - 1]], a);
            default:
                return i >= a;
        }
    }

    private boolean isUnder(int kind, int other) {
        int ancestor = kind;
        // A parent has a lesser number, so below other's number there is nothing to find.
        for (int step = 0; step < CLASSES && ancestor > other; step++) {
            ancestor = parentOf[ancestor];
        }
        return ancestor == other;
    }

    private int callsFromOne(int kind, int a, int f, int size) {
        int all = (1 << size) - 1;
        int first = f & -f;
        // The minus of a set with one call is that call and all above it; the minus of an empty set is empty.
        int fromFirst = -first & all;
        switch (kind) {
            case FLOW:
                return fromFirst;
            case BELOW:
                return fromFirst & ~first;
            case TIMES:
                return callsAtLeast(a, f, size);
            case NOT:
                return ~f & all;
            default:
                return first;
        }
    }

    private int callsAtLeast(int a, int f, int size) {
        int found = 0;
        int seen = 0;
        for (int i = 0; i < size; i++) {
            if (hasCall(f, i)) {
                seen++;
            }
            if (seen >= a) {
                found |= 1 << i;
            }
        }
        return found;
    }

    private int callsFromTwo(int kind, int f, int g, int size) {
        switch (kind) {
            case AND:
                return f & g;
            case OR:
                return f | g;
            default:
                return callsSince(f, g, size);
        }
    }

    private int callsSince(int f, int g, int size) {
        int found = 0;
        boolean held = false;
        for (int i = 0; i < size; i++) {
            held = hasCall(g, i) || held && hasCall(f, i);
            if (held) {
                found |= 1 << i;
            }
        }
        return found;
    }
}

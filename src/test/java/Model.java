import java.util.ArrayDeque;
import java.util.ArrayList;
import java.util.Deque;
import java.util.List;

/**
 * The document written down once more, word for word and without care for speed, as a second opinion on the program.
 */
final class Model {
    private record Formula(int kind, int a, Formula f, Formula g) {
    }

    private record Piece(Formula formula, int time, int[] count) {
    }

    private final int[] parents = {-1, -1, -1, -1, -1, -1, -1, -1};
    private final int[] classes = new int[16];
    private final int[] names = new int[16];
    private final int[] marks = new int[16];
    private final List<Integer> stack = new ArrayList<>();
    private final Deque<Formula> draft = new ArrayDeque<>();
    private int tokens = 0;
    private final List<Piece> pieces = new ArrayList<>();
    private final List<Integer> list = new ArrayList<>();

    int derive(int kind, int parent) {
        if (!within(kind, 0, 7) || !within(parent, -1, kind - 1)) {
            return -1;
        }
        if (!stack.isEmpty()) {
            return -2;
        }
        int before = parents[kind];
        parents[kind] = parent;
        return before;
    }

    int define(int method, int kind, int name, int markSet) {
        if (!within(method, 0, 15)) {
            return -1;
        }
        if (!within(kind, 0, 7) || !within(name, 0, 9) || !within(markSet, 0, 15)) {
            return -3;
        }
        if (!stack.isEmpty()) {
            return -2;
        }
        classes[method] = kind;
        names[method] = name;
        marks[method] = markSet;
        return 1;
    }

    int token(int kind, int a) {
        int[] least = {0, 0, 0, 0, 0, 0, 0, 0, 0, 1, 0, 0, 0, 0};
        int[] most = {9, 7, 7, 3, 7, 20, 0, 0, 0, 5, 0, 0, 0, 0};
        int[] takes = {0, 0, 0, 0, 0, 0, 1, 1, 2, 1, 1, 2, 2, 1};
        if (!within(kind, 0, 13)) {
            return -1;
        }
        if ((kind <= 5 || kind == 9) && !within(a, least[kind], most[kind])) {
            return -1;
        }
        if (tokens == 16) {
            return -2;
        }
        if (draft.size() < takes[kind]) {
            return -3;
        }
        if (takes[kind] == 0 && draft.size() == 6) {
            return -4;
        }
        Formula g = takes[kind] == 2 ? draft.pop() : null;
        Formula f = takes[kind] >= 1 ? draft.pop() : null;
        draft.push(new Formula(kind, a, f, g));
        tokens++;
        return draft.size();
    }

    int clear() {
        int had = draft.size();
        draft.clear();
        tokens = 0;
        return had;
    }

    int advise(int time) {
        if (!within(time, 0, 1)) {
            return -1;
        }
        if (draft.size() != 1) {
            return -2;
        }
        if (pieces.size() == 6) {
            return -3;
        }
        if (!stack.isEmpty()) {
            return -4;
        }
        pieces.add(new Piece(draft.peek(), time, new int[1]));
        clear();
        return pieces.size() - 1;
    }

    int drop() {
        if (pieces.isEmpty()) {
            return -1;
        }
        if (!stack.isEmpty()) {
            return -2;
        }
        pieces.remove(pieces.size() - 1);
        return pieces.size();
    }

    int call(int method) {
        if (!within(method, 0, 15)) {
            return -1;
        }
        if (stack.size() == 20) {
            return -2;
        }
        stack.add(method);
        int due = 0;
        for (int p = 0; p < pieces.size(); p++) {
            due += give(p, 0);
        }
        return due;
    }

    int giveBack() {
        if (stack.isEmpty()) {
            return -1;
        }
        int due = 0;
        for (int p = pieces.size() - 1; p >= 0; p--) {
            due += give(p, 1);
        }
        stack.remove(stack.size() - 1);
        return due;
    }

    private int give(int p, int time) {
        Piece piece = pieces.get(p);
        if (piece.time != time || !holdsAt(piece.formula, stack.size() - 1)) {
            return 0;
        }
        list.add(p);
        piece.count[0]++;
        return 1;
    }

    int unwind() {
        int were = stack.size();
        stack.clear();
        return were;
    }

    int depth() {
        return stack.size();
    }

    int methodAt(int i) {
        return within(i, 0, stack.size() - 1) ? stack.get(i) : -1;
    }

    int holds(int piece, int i) {
        if (!within(piece, 0, pieces.size() - 1)) {
            return -1;
        }
        if (!within(i, 0, stack.size() - 1)) {
            return -2;
        }
        return holdsAt(pieces.get(piece).formula, i) ? 1 : 0;
    }

    int given() {
        return list.size();
    }

    int count(int piece) {
        return within(piece, 0, pieces.size() - 1) ? pieces.get(piece).count[0] : -1;
    }

    int last(int k) {
        return within(k, 0, 63) && k < list.size() ? list.get(list.size() - 1 - k) : -1;
    }

    int wouldHold(int piece, int method) {
        if (!within(piece, 0, pieces.size() - 1)) {
            return -1;
        }
        if (!within(method, 0, 15) || stack.size() == 20) {
            return -2;
        }
        stack.add(method);
        boolean held = holdsAt(pieces.get(piece).formula, stack.size() - 1);
        stack.remove(stack.size() - 1);
        return held ? 1 : 0;
    }

    int would(int piece) {
        if (!within(piece, 0, pieces.size() - 1)) {
            return -1;
        }
        if (stack.size() == 20) {
            return -2;
        }
        int set = 0;
        for (int m = 0; m < 16; m++) {
            set += wouldHold(piece, m) << m;
        }
        return set;
    }

    private static boolean within(int n, int least, int most) {
        return n >= least && n <= most;
    }

    private boolean under(int kind, int other) {
        return kind == other || kind >= 0 && parents[kind] >= 0 && under(parents[kind], other);
    }

    private boolean holdsAt(Formula x, int i) {
        int method = stack.get(i);
        switch (x.kind) {
            case Check.NAME:
                return names[method] == x.a;
            case Check.CLASS:
                return classes[method] == x.a;
            case Check.KIN:
                return under(classes[method], x.a);
            case Check.MARK:
                return (marks[method] & 1 << x.a) != 0;
            case Check.BY:
                return i >= 1 && under(classes[stack.get(i - 1)], x.a);
            case Check.DEEP:
                return i >= x.a;
            case Check.FLOW:
                return times(x.f, i) >= 1;
            case Check.BELOW:
                return times(x.f, i - 1) >= 1;
            case Check.SINCE:
                return since(x.f, x.g, i);
            case Check.TIMES:
                return times(x.f, i) >= x.a;
            case Check.NOT:
                return !holdsAt(x.f, i);
            case Check.AND:
                return holdsAt(x.f, i) && holdsAt(x.g, i);
            case Check.OR:
                return holdsAt(x.f, i) || holdsAt(x.g, i);
            default:
                return holdsAt(x.f, i) && times(x.f, i - 1) == 0;
        }
    }

    /** At how many of the calls from number 0 to number i the formula holds. */
    private int times(Formula f, int i) {
        int n = 0;
        for (int j = 0; j <= i; j++) {
            n += holdsAt(f, j) ? 1 : 0;
        }
        return n;
    }

    private boolean since(Formula f, Formula g, int i) {
        for (int j = 0; j <= i; j++) {
            boolean all = holdsAt(g, j);
            for (int k = j + 1; all && k <= i; k++) {
                all = holdsAt(f, k);
            }
            if (all) {
                return true;
            }
        }
        return false;
    }
}

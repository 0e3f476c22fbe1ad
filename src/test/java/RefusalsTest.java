/**
 * "A refused call changes nothing. The tests of a call are made in the order in which they are named." For each refusal
 * of each call: the answer, and that all is as it was; for each two refusals that can apply at once: which is due.
 */
public final class RefusalsTest {
    private static final int MIN = Integer.MIN_VALUE;
    private static final int MAX = Integer.MAX_VALUE;

    private static final State.Made NEW = x -> { };
    private static final State.Made IDLE = RefusalsTest::idle;
    private static final State.Made BUSY = RefusalsTest::busy;
    private static final State.Made FULL = RefusalsTest::full;

    public static void main(String[] args) {
        statesAreAsNamed();
        looksTellStatesApart();
        deriveRefused();
        deriveInOrder();
        defineRefused();
        defineInOrder();
        tokenRefused();
        tokenInOrder();
        adviseRefused();
        adviseInOrder();
        dropRefused();
        dropInOrder();
        callRefused();
        callInOrder();
        giveBackRefused();
        holdsRefused();
        wouldHoldRefused();
        wouldRefused();
        otherQuestionsRefused();
        questionsChangeNothing();
        Check.end();
    }

    private static void define(CallAdvice x) {
        x.derive(3, 1);
        x.derive(5, 3);
        x.derive(4, 2);
        for (int m = 0; m < 16; m++) {
            x.define(m, m % 8, m % 10, m);
        }
    }

    /** Three pieces, ten given, two formulas by four tokens on the draft; the stack is empty. */
    private static void idle(CallAdvice x) {
        define(x);
        Check.advise(x, 0, Check.KIN, 1, Check.FLOW, 0);
        Check.advise(x, 1, Check.MARK, 2, Check.TIMES, 2);
        Check.advise(x, 0, Check.DEEP, 1);
        Check.callAll(x, 1, 4, 5, 6, 15);
        x.giveBack();
        x.unwind();
        x.token(Check.NAME, 3);
        x.token(Check.NOT, 0);
        x.token(Check.BY, 3);
        x.token(Check.MARK, 1);
        x.token(Check.OR, 0);
    }

    /** As idle, and with two calls, the draft with one formula. */
    private static void busy(CallAdvice x) {
        idle(x);
        x.token(Check.AND, 0);
        Check.callAll(x, 9, 13);
    }

    /** Six pieces, a stack of 20 calls, a list of more than 64, 16 tokens and six formulas on the draft. */
    private static void full(CallAdvice x) {
        define(x);
        Check.advise(x, 0, Check.DEEP, 0);
        Check.advise(x, 1, Check.KIN, 1);
        Check.advise(x, 0, Check.NAME, 3, Check.FLOW, 0);
        Check.advise(x, 0, Check.MARK, 0, Check.NAME, 5, Check.SINCE, 0);
        Check.advise(x, 1, Check.MARK, 2, Check.ONLY, 0);
        Check.advise(x, 0, Check.BY, 2, Check.BELOW, 0);
        draftFull(x, 6);
        for (int n = 0; n < 20; n++) {
            x.call(n * 5 % 16);
        }
        for (int n = 0; n < 10; n++) {
            x.giveBack();
        }
        for (int n = 0; n < 10; n++) {
            x.call(n * 3 % 16);
        }
    }

    /** A draft of that many formulas that has had 16 tokens. */
    private static void draftFull(CallAdvice x, int formulas) {
        x.clear();
        for (int n = 0; n < formulas; n++) {
            x.token(Check.NAME, n);
        }
        for (int n = formulas; n < 16; n++) {
            x.token(Check.NOT, 0);
        }
    }

    private static State.Made with(State.Made first, State.Made then) {
        return x -> {
            first.by(x);
            then.by(x);
        };
    }

    private static void statesAreAsNamed() {
        CallAdvice x = new CallAdvice();
        idle(x);
        Check.due("idle: depth()", 0, x.depth());
        Check.due("idle: count(2)", 4, x.count(2));
        Check.due("idle: given()", 10, x.given());
        Check.due("idle: clear()", 2, x.clear());
        x = new CallAdvice();
        busy(x);
        Check.due("busy: depth()", 2, x.depth());
        Check.due("busy: clear()", 1, x.clear());
        x = new CallAdvice();
        full(x);
        Check.due("full: depth()", 20, x.depth());
        Check.that("full: there are six pieces", x.count(5) > 0);
        Check.that("full: the list is longer than what is kept", x.given() > 64);
        Check.due("full: another token", -2, x.token(Check.NOT, 0));
        Check.due("full: clear()", 6, x.clear());
    }

    /** Looks that see nothing would let every test here pass. */
    private static void looksTellStatesApart() {
        State.Made[] changes = {x -> x.derive(7, 2), x -> x.derive(3, -1), x -> x.define(9, 1, 8, 9),
            x -> x.define(9, 2, 9, 9), x -> x.define(9, 1, 9, 1), x -> x.token(Check.NAME, 0), x -> x.clear(),
            x -> x.drop(), x -> x.call(0)};
        for (int n = 0; n < changes.length; n++) {
            Check.that("looks see change " + n, State.differs(IDLE, with(IDLE, changes[n])));
        }
        Check.that("looks see two tokens that leave the formula", State.differs(BUSY, with(BUSY, x -> {
            x.token(Check.NOT, 0);
            x.token(Check.NOT, 0);
        })));
        Check.that("looks see another draft", State.differs(x -> x.token(Check.NAME, 0), x -> x.token(Check.NAME, 1)));
        Check.that("looks see another time", State.differs(x -> Check.advise(x, 0, Check.DEEP, 0),
                x -> Check.advise(x, 1, Check.DEEP, 0)));
        Check.that("looks see a call and its return", State.differs(IDLE, with(IDLE, x -> {
            x.call(1);
            x.giveBack();
        })));
        Check.that("looks see nothing in what is taken back", !State.differs(IDLE, with(IDLE, x -> {
            x.derive(7, 2);
            x.derive(7, -1);
        })));
    }

    private static void deriveRefused() {
        int[][] wrong = {{-1, -1}, {8, -1}, {8, 7}, {MIN, -1}, {MAX, -1}, {MIN, MAX}, {0, -2}, {0, 0}, {3, -2}, {3, 3},
            {7, -2}, {7, 7}, {3, MIN}, {3, MAX}};
        for (int[] w : wrong) {
            String what = "derive(" + w[0] + ", " + w[1] + ")";
            State.stays("2: " + what + " on a new object", -1, NEW, x -> x.derive(w[0], w[1]));
            State.stays("2: " + what + ", idle", -1, IDLE, x -> x.derive(w[0], w[1]));
        }
        State.stays("2: derive(3, 2), busy", -2, BUSY, x -> x.derive(3, 2));
        State.stays("2: derive(3, -1), busy", -2, BUSY, x -> x.derive(3, -1));
        State.stays("2: derive(3, 1), as it is, busy", -2, BUSY, x -> x.derive(3, 1));
        State.stays("2: derive(7, 6), full", -2, FULL, x -> x.derive(7, 6));
        State.stays("2: derive(0, -1), full", -2, FULL, x -> x.derive(0, -1));
    }

    private static void deriveInOrder() {
        int[][] wrong = {{-1, -1}, {8, 0}, {5, -2}, {5, 5}, {0, 0}};
        for (int[] w : wrong) {
            String what = "2: -1 goes before -2: derive(" + w[0] + ", " + w[1] + ")";
            State.stays(what, -1, BUSY, x -> x.derive(w[0], w[1]));
            State.stays(what, -1, FULL, x -> x.derive(w[0], w[1]));
        }
    }

    private static void defineRefused() {
        for (int m : new int[] {-1, 16, MIN, MAX}) {
            State.stays("3: define(" + m + ", 1, 1, 1)", -1, IDLE, x -> x.define(m, 1, 1, 1));
        }
        int[][] wrong = {{-1, 1, 1}, {8, 1, 1}, {1, -1, 1}, {1, 10, 1}, {1, 1, -1}, {1, 1, 16},
            {MIN, 1, 1}, {MAX, 1, 1}, {1, MIN, 1}, {1, MAX, 1}, {1, 1, MIN}, {1, 1, MAX}};
        for (int[] w : wrong) {
            String what = "3: define(6, " + w[0] + ", " + w[1] + ", " + w[2] + ")";
            State.stays(what, -3, NEW, x -> x.define(6, w[0], w[1], w[2]));
            State.stays(what, -3, IDLE, x -> x.define(6, w[0], w[1], w[2]));
        }
        for (int m : new int[] {0, 9, 15}) {
            State.stays("3: define(" + m + ", 7, 2, 5), busy", -2, BUSY, x -> x.define(m, 7, 2, 5));
            State.stays("3: define(" + m + ", 7, 2, 5), full", -2, FULL, x -> x.define(m, 7, 2, 5));
        }
    }

    private static void defineInOrder() {
        for (int m : new int[] {-1, 16}) {
            State.stays("3: -1 goes before -3: " + m, -1, IDLE, x -> x.define(m, 8, 1, 1));
            State.stays("3: -1 goes before -3: " + m, -1, IDLE, x -> x.define(m, 1, 10, 1));
            State.stays("3: -1 goes before -3: " + m, -1, IDLE, x -> x.define(m, 1, 1, 16));
            State.stays("3: -1 goes before -2: " + m, -1, BUSY, x -> x.define(m, 1, 1, 1));
            State.stays("3: -1 goes before -3 and -2: " + m, -1, FULL, x -> x.define(m, -1, -1, -1));
        }
        int[][] wrong = {{-1, 1, 1}, {8, 1, 1}, {1, -1, 1}, {1, 10, 1}, {1, 1, -1}, {1, 1, 16}};
        for (int[] w : wrong) {
            State.stays("3: -3 goes before -2", -3, BUSY, x -> x.define(6, w[0], w[1], w[2]));
            State.stays("3: -3 goes before -2", -3, FULL, x -> x.define(6, w[0], w[1], w[2]));
        }
    }

    private static void tokenRefused() {
        int[][] wrong = {{-1, 0}, {14, 0}, {MIN, 0}, {MAX, 0}, {-1, 1}, {14, 1}, {Check.NAME, -1}, {Check.NAME, 10},
            {Check.CLASS, -1}, {Check.CLASS, 8}, {Check.KIN, -1}, {Check.KIN, 8}, {Check.MARK, -1}, {Check.MARK, 4},
            {Check.BY, -1}, {Check.BY, 8}, {Check.DEEP, -1}, {Check.DEEP, 21}, {Check.TIMES, 0}, {Check.TIMES, 6},
            {Check.TIMES, -1}, {Check.NAME, MIN}, {Check.DEEP, MAX}, {Check.TIMES, MAX}};
        for (int[] w : wrong) {
            String what = "4: token(" + w[0] + ", " + w[1] + ")";
            State.stays(what + ", idle", -1, IDLE, x -> x.token(w[0], w[1]));
            State.stays(what + ", busy", -1, BUSY, x -> x.token(w[0], w[1]));
        }
        State.Made sixteen = with(IDLE, x -> draftFull(x, 3));
        for (int kind = Check.NAME; kind <= Check.ONLY; kind++) {
            int k = kind;
            State.stays("4: token(" + k + ", 1) after 16", -2, sixteen, x -> x.token(k, 1));
        }
        for (int kind = Check.FLOW; kind <= Check.ONLY; kind++) {
            int k = kind;
            State.stays("4: token(" + k + ", 1) on none", -3, NEW, x -> x.token(k, 1));
        }
        for (int kind : new int[] {Check.SINCE, Check.AND, Check.OR}) {
            State.stays("4: token(" + kind + ", 1) on one", -3, BUSY, x -> x.token(kind, 1));
        }
        State.Made six = with(IDLE, RefusalsTest::sixFormulas);
        for (int kind = Check.NAME; kind <= Check.DEEP; kind++) {
            int k = kind;
            State.stays("4: token(" + k + ", 1) on six", -4, six, x -> x.token(k, 1));
        }
    }

    private static void sixFormulas(CallAdvice x) {
        x.clear();
        for (int n = 0; n < 6; n++) {
            x.token(Check.NAME, n + 4);
        }
    }

    private static void tokenInOrder() {
        State.Made oneFormula = with(IDLE, x -> draftFull(x, 1));
        State.Made six = with(IDLE, RefusalsTest::sixFormulas);
        for (int kind : new int[] {-1, 14}) {
            State.stays("4: -1 goes before -2 and -4: " + kind, -1, FULL, x -> x.token(kind, 0));
            State.stays("4: -1 goes before -3: " + kind, -1, NEW, x -> x.token(kind, 0));
            State.stays("4: -1 goes before -4: " + kind, -1, six, x -> x.token(kind, 0));
        }
        int[][] wrong = {{Check.NAME, 10}, {Check.CLASS, 8}, {Check.KIN, 8}, {Check.MARK, 4}, {Check.BY, 8},
            {Check.DEEP, 21}};
        for (int[] w : wrong) {
            State.stays("4: -1 goes before -2: " + w[0], -1, oneFormula, x -> x.token(w[0], w[1]));
            State.stays("4: -1 goes before -4: " + w[0], -1, six, x -> x.token(w[0], w[1]));
            State.stays("4: -1 goes before -2 and -4: " + w[0], -1, FULL, x -> x.token(w[0], w[1]));
            State.stays("4: -2 goes before -4: " + w[0], -2, FULL, x -> x.token(w[0], 0));
        }
        State.stays("4: -1 goes before -2: TIMES 6", -1, oneFormula, x -> x.token(Check.TIMES, 6));
        State.stays("4: -1 goes before -3: TIMES 0", -1, NEW, x -> x.token(Check.TIMES, 0));
        for (int kind : new int[] {Check.SINCE, Check.AND, Check.OR}) {
            State.stays("4: -2 goes before -3: " + kind, -2, oneFormula, x -> x.token(kind, 0));
        }
    }

    private static void adviseRefused() {
        State.Made one = with(IDLE, x -> x.token(Check.AND, 0));
        for (int time : new int[] {-1, 2, MIN, MAX}) {
            State.stays("6: advise(" + time + ")", -1, one, x -> x.advise(time));
        }
        State.Made six = with(one, RefusalsTest::sixPieces);
        for (int time = 0; time <= 1; time++) {
            int t = time;
            State.stays("6: advise(" + t + ") of none", -2, NEW, x -> x.advise(t));
            State.stays("6: advise(" + t + ") of two", -2, IDLE, x -> x.advise(t));
            State.stays("6: advise(" + t + ") of six", -2, with(IDLE, RefusalsTest::sixFormulas), x -> x.advise(t));
            State.stays("6: advise(" + t + "), a seventh piece", -3, six, x -> x.advise(t));
            State.stays("6: advise(" + t + ") in calls", -4, BUSY, x -> x.advise(t));
        }
    }

    /** Three pieces more; then one formula by two tokens on the draft. */
    private static void sixPieces(CallAdvice x) {
        x.advise(1);
        Check.advise(x, 0, Check.NAME, 9);
        Check.advise(x, 1, Check.DEEP, 2);
        x.token(Check.CLASS, 5);
        x.token(Check.FLOW, 0);
    }

    private static void adviseInOrder() {
        State.Made sixPieces = with(with(IDLE, x -> x.token(Check.AND, 0)), RefusalsTest::sixPieces);
        State.Made inCalls = x -> Check.callAll(x, 4, 5);
        State.Made twoFormulas = x -> x.token(Check.NAME, 1);
        State.Made noFormula = x -> x.clear();
        for (int time : new int[] {-1, 2}) {
            State.stays("6: -1 goes before -2, no formula", -1, NEW, x -> x.advise(time));
            State.stays("6: -1 goes before -2, two formulas", -1, IDLE, x -> x.advise(time));
            State.stays("6: -1 goes before -3", -1, sixPieces, x -> x.advise(time));
            State.stays("6: -1 goes before -4", -1, BUSY, x -> x.advise(time));
            State.stays("6: -1 goes before all", -1, FULL, x -> x.advise(time));
        }
        for (int time = 0; time <= 1; time++) {
            int t = time;
            State.stays("6: -2 goes before -3, no formula", -2, with(sixPieces, noFormula), x -> x.advise(t));
            State.stays("6: -2 goes before -3, two formulas", -2, with(sixPieces, twoFormulas), x -> x.advise(t));
            State.stays("6: -2 goes before -4, no formula", -2, with(BUSY, noFormula), x -> x.advise(t));
            State.stays("6: -2 goes before -4, two formulas", -2, with(BUSY, twoFormulas), x -> x.advise(t));
            State.stays("6: -2 goes before -3 and -4", -2, FULL, x -> x.advise(t));
            State.stays("6: -3 goes before -4", -3, with(sixPieces, inCalls), x -> x.advise(t));
        }
    }

    private static void dropRefused() {
        State.stays("7: drop() of none", -1, NEW, x -> x.drop());
        State.stays("7: drop() of none, with a draft", -1, x -> x.token(Check.NAME, 0), x -> x.drop());
        State.stays("7: drop() in calls", -2, BUSY, x -> x.drop());
        State.stays("7: drop() in 20 calls", -2, FULL, x -> x.drop());
        State.stays("7: drop() in one call", -2, with(IDLE, x -> x.call(3)), x -> x.drop());
    }

    private static void dropInOrder() {
        State.stays("7: -1 goes before -2", -1, x -> x.call(3), x -> x.drop());
    }

    private static void callRefused() {
        for (int method : new int[] {-1, 16, MIN, MAX}) {
            State.stays("8: call(" + method + "), new", -1, NEW, x -> x.call(method));
            State.stays("8: call(" + method + "), idle", -1, IDLE, x -> x.call(method));
            State.stays("8: call(" + method + "), busy", -1, BUSY, x -> x.call(method));
        }
        for (int method : new int[] {0, 7, 15}) {
            State.stays("8: call(" + method + "), full", -2, FULL, x -> x.call(method));
        }
    }

    private static void callInOrder() {
        for (int method : new int[] {-1, 16, MIN, MAX}) {
            State.stays("8: -1 goes before -2: call(" + method + ")", -1, FULL, x -> x.call(method));
        }
    }

    private static void giveBackRefused() {
        State.stays("9: giveBack(), new", -1, NEW, x -> x.giveBack());
        State.stays("9: giveBack(), idle", -1, IDLE, x -> x.giveBack());
        State.stays("9: giveBack() after unwind", -1, with(FULL, x -> x.unwind()), x -> x.giveBack());
    }

    private static void holdsRefused() {
        for (int piece : new int[] {-1, 3, 6, MIN, MAX}) {
            State.stays("13: holds(" + piece + ", 0)", -1, BUSY, x -> x.holds(piece, 0));
            State.stays("13: -1 goes before -2: holds(" + piece + ", 2)", -1, BUSY, x -> x.holds(piece, 2));
            State.stays("13: -1 goes before -2: holds(" + piece + ", -1)", -1, IDLE, x -> x.holds(piece, -1));
        }
        for (int i : new int[] {-1, 2, 20, MIN, MAX}) {
            State.stays("13: holds(0, " + i + ")", -2, BUSY, x -> x.holds(0, i));
        }
        State.stays("13: holds(0, 0), idle", -2, IDLE, x -> x.holds(0, 0));
        State.stays("13: holds(5, 20), full", -2, FULL, x -> x.holds(5, 20));
        State.stays("13: holds(6, 20), full", -1, FULL, x -> x.holds(6, 20));
    }

    private static void wouldHoldRefused() {
        for (int piece : new int[] {-1, 3, 6, MIN, MAX}) {
            State.stays("17: wouldHold(" + piece + ", 0)", -1, BUSY, x -> x.wouldHold(piece, 0));
            State.stays("17: -1 goes before -2: wouldHold(" + piece + ", 16)", -1, BUSY, x -> x.wouldHold(piece, 16));
            State.stays("17: -1 goes before -2: wouldHold(" + piece + ", -1)", -1, IDLE, x -> x.wouldHold(piece, -1));
        }
        for (int method : new int[] {-1, 16, MIN, MAX}) {
            State.stays("17: wouldHold(0, " + method + ")", -2, BUSY, x -> x.wouldHold(0, method));
            State.stays("17: wouldHold(5, " + method + "), full", -2, FULL, x -> x.wouldHold(5, method));
        }
        State.stays("17: wouldHold(5, 0), full", -2, FULL, x -> x.wouldHold(5, 0));
        State.stays("17: -1 goes before -2: wouldHold(6, 0), full", -1, FULL, x -> x.wouldHold(6, 0));
        State.stays("17: -1 goes before -2: wouldHold(-1, 16), full", -1, FULL, x -> x.wouldHold(-1, 16));
    }

    private static void wouldRefused() {
        for (int piece : new int[] {-1, 3, 6, MIN, MAX}) {
            State.stays("18: would(" + piece + ")", -1, BUSY, x -> x.would(piece));
        }
        State.stays("18: would(0), full", -2, FULL, x -> x.would(0));
        State.stays("18: would(5), full", -2, FULL, x -> x.would(5));
        State.stays("18: -1 goes before -2: would(6), full", -1, FULL, x -> x.would(6));
        State.stays("18: -1 goes before -2: would(-1), full", -1, FULL, x -> x.would(-1));
    }

    private static void otherQuestionsRefused() {
        for (int n : new int[] {-1, MIN, MAX}) {
            State.stays("12: methodAt(" + n + ")", -1, BUSY, x -> x.methodAt(n));
            State.stays("15: count(" + n + ")", -1, BUSY, x -> x.count(n));
            State.stays("16: last(" + n + ")", -1, BUSY, x -> x.last(n));
        }
        State.stays("12: methodAt(2)", -1, BUSY, x -> x.methodAt(2));
        State.stays("12: methodAt(20), full", -1, FULL, x -> x.methodAt(20));
        State.stays("15: count(3)", -1, BUSY, x -> x.count(3));
        State.stays("15: count(6), full", -1, FULL, x -> x.count(6));
        State.stays("16: last(10)", -1, IDLE, x -> x.last(10));
        State.stays("16: last(64), full", -1, FULL, x -> x.last(64));
    }

    /** "questions; they change nothing." */
    private static void questionsChangeNothing() {
        State.stays("11: depth()", 2, BUSY, x -> x.depth());
        State.stays("11: depth(), full", 20, FULL, x -> x.depth());
        State.stays("12: methodAt(1)", 13, BUSY, x -> x.methodAt(1));
        State.stays("13: holds(0, 0)", 1, BUSY, x -> x.holds(0, 0));
        State.stays("13: holds(2, 0)", 0, BUSY, x -> x.holds(2, 0));
        State.stays("13: holds(0, 19), full", 1, FULL, x -> x.holds(0, 19));
        State.stays("14: given()", 10, IDLE, x -> x.given());
        State.stays("15: count(2)", 4, IDLE, x -> x.count(2));
        State.stays("16: last(9)", 0, IDLE, x -> x.last(9));
        State.stays("17: wouldHold(2, 7)", 1, BUSY, x -> x.wouldHold(2, 7));
        State.stays("17: wouldHold(2, 7), idle", 0, IDLE, x -> x.wouldHold(2, 7));
        State.stays("17: wouldHold(0, 0) at the last place", 1, with(FULL, x -> x.giveBack()), x -> x.wouldHold(0, 0));
        State.stays("18: would(2)", 65535, BUSY, x -> x.would(2));
        State.stays("18: would(2), idle", 0, IDLE, x -> x.would(2));
        State.stays("18: would(0) at the last place", 65535, with(FULL, x -> x.giveBack()), x -> x.would(0));
    }
}

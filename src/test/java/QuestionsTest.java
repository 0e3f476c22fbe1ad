/** Promises 13 to 18: holds, given, count, last, wouldHold, would. */
public final class QuestionsTest {
    private static final int[] FAR = {Integer.MIN_VALUE, Integer.MAX_VALUE};

    public static void main(String[] args) {
        holdsRefuses();
        holdsLooksAtOldCalls();
        givenIsForEver();
        countIsOfThePieceNow();
        lastKeepsSixtyFour();
        lastKeepsDroppedNumbers();
        wouldHoldRefuses();
        wouldRefuses();
        wouldLooksAtTheCallMadeNow();
        wouldAsksAllMethods();
        questionsChangeNothing();
        Check.end();
    }

    private static void holdsRefuses() {
        CallAdvice x = new CallAdvice();
        Check.due("13: no piece and no call", -1, x.holds(0, 0));
        Check.advise(x, 0, Check.DEEP, 0);
        Check.due("13: no call", -2, x.holds(0, 0));
        Check.callAll(x, 4, 4);
        for (int piece : new int[] {-1, 1, 5, 6, FAR[0], FAR[1]}) {
            Check.due("13: holds(" + piece + ", 0)", -1, x.holds(piece, 0));
            Check.due("13: holds(" + piece + ", 2)", -1, x.holds(piece, 2));
        }
        for (int i : new int[] {-1, 2, 19, 20, 32, FAR[0], FAR[1]}) {
            Check.due("13: holds(0, " + i + ")", -2, x.holds(0, i));
        }
        Check.due("13: holds(0, 1)", 1, x.holds(0, 1));
        x.giveBack();
        Check.due("13: holds(0, 1) after the return", -2, x.holds(0, 1));
        Check.due("13: holds(0, 0)", 1, x.holds(0, 0));
    }

    private static void holdsLooksAtOldCalls() {
        CallAdvice x = new CallAdvice();
        x.define(1, 0, 1, 0);
        Check.advise(x, 1, Check.NAME, 1);
        Check.advise(x, 0, Check.NAME, 1, Check.BELOW, 0, Check.NOT, 0);
        Check.callAll(x, 0, 1, 0, 1);
        Check.holdsAt("13: a piece with time 1", x, 0, "0101");
        Check.holdsAt("13: later calls are not looked at", x, 1, "1100");
    }

    private static void givenIsForEver() {
        CallAdvice x = new CallAdvice();
        Check.advise(x, 0, Check.DEEP, 0);
        Check.advise(x, 1, Check.DEEP, 0);
        for (int n = 1; n <= 100; n++) {
            x.call(0);
            Check.due("14: given() after a call", 2 * n - 1, x.given());
            x.giveBack();
            Check.due("14: given() after a return", 2 * n, x.given());
        }
        x.drop();
        x.drop();
        Check.due("14: given() after drop", 200, x.given());
        x.call(0);
        x.unwind();
        Check.due("14: given() without pieces", 200, x.given());
    }

    private static void countIsOfThePieceNow() {
        CallAdvice x = new CallAdvice();
        x.define(1, 0, 1, 0);
        for (int piece : new int[] {-1, 0, 6, FAR[0], FAR[1]}) {
            Check.due("15: count(" + piece + ")", -1, x.count(piece));
        }
        Check.advise(x, 0, Check.NAME, 1);
        Check.advise(x, 1, Check.DEEP, 0);
        Check.due("15: count(0) at first", 0, x.count(0));
        Check.callAll(x, 0, 1, 1);
        x.giveBack();
        Check.due("15: count(0)", 2, x.count(0));
        Check.due("15: count(1)", 1, x.count(1));
        Check.due("15: count(2)", -1, x.count(2));
        x.unwind();
        x.drop();
        Check.due("15: count(1) after drop", -1, x.count(1));
        Check.advise(x, 0, Check.DEEP, 0);
        Check.due("15: count(1) of the new piece", 0, x.count(1));
        Check.due("15: count(0) is as before", 2, x.count(0));
        x.call(0);
        Check.due("15: count(1) of the new piece, given", 1, x.count(1));
        Check.due("15: given()", 4, x.given());
    }

    private static void lastKeepsSixtyFour() {
        CallAdvice x = new CallAdvice();
        for (int piece = 0; piece < 5; piece++) {
            Check.advise(x, 0, Check.DEEP, 0);
        }
        for (int n = 0; n < 12; n++) {
            x.call(0);
        }
        Check.due("16: last(59) of 60", 0, x.last(59));
        Check.due("16: last(60) of 60", -1, x.last(60));
        Check.due("16: last(61) of 60", -1, x.last(61));
        Check.due("16: last(63) of 60", -1, x.last(63));
        x.call(0);
        Check.due("16: given()", 65, x.given());
        for (int k = 0; k < 64; k++) {
            Check.due("16: last(" + k + ") of 65", (64 - k) % 5, x.last(k));
        }
        Check.due("16: last(64) is not kept", -1, x.last(64));
        for (int n = 0; n < 7; n++) {
            x.call(0);
        }
        x.unwind();
        for (int n = 0; n < 10; n++) {
            x.call(0);
        }
        Check.due("16: given()", 150, x.given());
        for (int k = 0; k < 64; k++) {
            Check.due("16: last(" + k + ") of 150", (149 - k) % 5, x.last(k));
        }
        for (int k : new int[] {-1, 64, 65, 149, 150, FAR[0], FAR[1]}) {
            Check.due("16: last(" + k + ")", -1, x.last(k));
        }
    }

    private static void lastKeepsDroppedNumbers() {
        CallAdvice x = new CallAdvice();
        Check.advise(x, 0, Check.DEEP, 0);
        Check.advise(x, 0, Check.DEEP, 0);
        Check.due("16: last(0) before the first", -1, x.last(0));
        x.call(0);
        x.giveBack();
        x.drop();
        x.drop();
        Check.due("16: last(0)", 1, x.last(0));
        Check.due("16: last(1)", 0, x.last(1));
        Check.due("16: last(2)", -1, x.last(2));
    }

    private static void wouldHoldRefuses() {
        CallAdvice x = new CallAdvice();
        Check.due("17: no piece", -1, x.wouldHold(0, 0));
        Check.due("17: no piece and no method", -1, x.wouldHold(0, 16));
        Check.advise(x, 0, Check.DEEP, 0);
        for (int piece : new int[] {-1, 1, 6, FAR[0], FAR[1]}) {
            Check.due("17: wouldHold(" + piece + ", 0)", -1, x.wouldHold(piece, 0));
        }
        for (int method : new int[] {-1, 16, FAR[0], FAR[1]}) {
            Check.due("17: wouldHold(0, " + method + ")", -2, x.wouldHold(0, method));
        }
        for (int n = 0; n < 20; n++) {
            Check.due("17: wouldHold(0, 15) at depth " + n, 1, x.wouldHold(0, 15));
            x.call(0);
        }
        Check.due("17: wouldHold(0, 15) on a full stack", -2, x.wouldHold(0, 15));
        Check.due("17: wouldHold(0, 16) on a full stack", -2, x.wouldHold(0, 16));
        Check.due("17: wouldHold(1, 15) on a full stack", -1, x.wouldHold(1, 15));
        x.giveBack();
        Check.due("17: wouldHold(0, 15) after a return", 1, x.wouldHold(0, 15));
    }

    private static void wouldRefuses() {
        CallAdvice x = new CallAdvice();
        Check.due("18: no piece", -1, x.would(0));
        Check.advise(x, 1, Check.DEEP, 0);
        for (int piece : new int[] {-1, 1, 6, FAR[0], FAR[1]}) {
            Check.due("18: would(" + piece + ")", -1, x.would(piece));
        }
        for (int n = 0; n < 20; n++) {
            Check.due("18: would(0) at depth " + n, 65535, x.would(0));
            x.call(0);
        }
        Check.due("18: would(0) on a full stack", -2, x.would(0));
        Check.due("18: would(1) on a full stack", -1, x.would(1));
        x.giveBack();
        Check.due("18: would(0) after a return", 65535, x.would(0));
    }

    private static void wouldLooksAtTheCallMadeNow() {
        CallAdvice x = new CallAdvice();
        x.define(1, 1, 1, 0);
        Check.advise(x, 1, Check.DEEP, 1);
        Check.advise(x, 0, Check.BY, 1);
        Check.advise(x, 0, Check.NAME, 1, Check.TIMES, 2);
        int[] onEmpty = {0, 0, 0};
        int[] onOne = {1, 1, 1};
        for (int piece = 0; piece < 3; piece++) {
            Check.due("17: wouldHold(" + piece + ", 1)", onEmpty[piece], x.wouldHold(piece, 1));
        }
        x.call(1);
        for (int piece = 0; piece < 3; piece++) {
            Check.due("17: wouldHold(" + piece + ", 1) in a call", onOne[piece], x.wouldHold(piece, 1));
        }
        Check.due("17: wouldHold(2, 0) in a call", 0, x.wouldHold(2, 0));
        Check.due("18: would(0)", 65535, x.would(0));
        Check.due("18: would(1)", 65535, x.would(1));
        Check.due("18: would(2)", 2, x.would(2));
    }

    private static void wouldAsksAllMethods() {
        CallAdvice x = new CallAdvice();
        for (int m = 0; m < 16; m++) {
            x.define(m, m % 8, m % 10, m);
        }
        for (int g = 0; g < 4; g++) {
            Check.advise(x, 0, Check.MARK, g);
        }
        Check.advise(x, 0, Check.NAME, 5);
        Check.advise(x, 0, Check.CLASS, 7);
        int[] want = {0xAAAA, 0xCCCC, 0xF0F0, 0xFF00, 1 << 5 | 1 << 15, 1 << 7 | 1 << 15};
        for (int piece = 0; piece < 6; piece++) {
            Check.due("18: would(" + piece + ")", want[piece], x.would(piece));
            for (int m = 0; m < 16; m++) {
                Check.due("17: wouldHold(" + piece + ", " + m + ")", want[piece] >> m & 1, x.wouldHold(piece, m));
            }
        }
    }

    private static void questionsChangeNothing() {
        CallAdvice x = new CallAdvice();
        x.define(1, 0, 1, 0);
        Check.advise(x, 0, Check.NAME, 1, Check.FLOW, 0);
        x.token(Check.NAME, 0);
        Check.callAll(x, 1, 0);
        for (int round = 0; round < 3; round++) {
            Check.due("questions: depth()", 2, x.depth());
            Check.due("questions: methodAt(0)", 1, x.methodAt(0));
            Check.due("questions: methodAt(1)", 0, x.methodAt(1));
            Check.due("questions: methodAt(2)", -1, x.methodAt(2));
            Check.due("questions: holds(0, 1)", 1, x.holds(0, 1));
            Check.due("questions: given()", 2, x.given());
            Check.due("questions: count(0)", 2, x.count(0));
            Check.due("questions: last(0)", 0, x.last(0));
            Check.due("questions: last(2)", -1, x.last(2));
            Check.due("questions: wouldHold(0, 1)", 1, x.wouldHold(0, 1));
            Check.due("questions: would(0)", 65535, x.would(0));
        }
        Check.due("questions: the draft", 1, x.clear());
    }
}

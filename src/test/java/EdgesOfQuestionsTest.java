/** Promises 13 to 18: a test for each sentence that names a boundary, its words above the test. */
public final class EdgesOfQuestionsTest {
    private static final int MIN = Integer.MIN_VALUE;
    private static final int MAX = Integer.MAX_VALUE;

    public static void main(String[] args) {
        holdsAtEachCall();
        holdsOfNoPiece();
        holdsAtNoCall();
        givenSinceTheBeginning();
        countSinceThePieceWasMade();
        countOfNoPiece();
        lastOfEachPlace();
        lastOfNone();
        lastNotKept();
        wouldHoldAtACallMadeNow();
        wouldHoldOfNoPiece();
        wouldHoldOfNoMethod();
        wouldHoldOnTwentyCalls();
        wouldOfEachMethod();
        wouldOfNoPiece();
        wouldOnTwentyCalls();
        Check.end();
    }

    /** So many pieces with time 0 that hold everywhere. */
    private static CallAdvice advised(int pieces) {
        CallAdvice x = new CallAdvice();
        for (int n = 0; n < pieces; n++) {
            Check.advise(x, 0, Check.DEEP, 0);
        }
        return x;
    }

    private static void call(CallAdvice x, int calls) {
        for (int n = 0; n < calls; n++) {
            x.call(0);
        }
    }

    /** 13: "1 if a piece's formula holds at call i, else 0" */
    private static void holdsAtEachCall() {
        for (int calls = 1; calls <= 20; calls++) {
            CallAdvice x = new CallAdvice();
            x.define(1, 0, 1, 0);
            Check.advise(x, 0, Check.NAME, 1);
            Check.advise(x, 1, Check.NAME, 1, Check.NOT, 0);
            for (int n = 0; n < calls; n++) {
                x.call(n % 3 % 2);
            }
            for (int i = 0; i < calls; i++) {
                Check.due("13: holds(0, " + i + ") of " + calls, i % 3 % 2, x.holds(0, i));
                Check.due("13: holds(1, " + i + ") of " + calls, 1 - i % 3 % 2, x.holds(1, i));
            }
        }
        CallAdvice x = advised(6);
        call(x, 20);
        Check.due("13: the last piece at the last call", 1, x.holds(5, 19));
        Check.due("13: the first piece at the first call", 1, x.holds(0, 0));
    }

    /** 13: "there is no such piece: -1" */
    private static void holdsOfNoPiece() {
        for (int pieces = 0; pieces <= 6; pieces++) {
            CallAdvice x = advised(pieces);
            call(x, 1);
            for (int piece : new int[] {MIN, -2, -1, pieces, pieces + 1, 6, MAX}) {
                Check.due("13: holds(" + piece + ", 0) of " + pieces, -1, x.holds(piece, 0));
                Check.due("13: holds(" + piece + ", 1) of " + pieces, -1, x.holds(piece, 1));
            }
            for (int piece = 0; piece < pieces; piece++) {
                Check.due("13: holds(" + piece + ", 0) of " + pieces, 1, x.holds(piece, 0));
            }
        }
        CallAdvice x = advised(2);
        x.drop();
        call(x, 1);
        Check.due("13: a dropped piece", -1, x.holds(1, 0));
        Check.due("13: the one left", 1, x.holds(0, 0));
    }

    /** 13: "no such call: -2" */
    private static void holdsAtNoCall() {
        for (int calls = 0; calls <= 20; calls++) {
            CallAdvice x = advised(1);
            call(x, calls);
            for (int i : new int[] {MIN, -2, -1, calls, calls + 1, 20, 31, 32, 33, MAX}) {
                Check.due("13: holds(0, " + i + ") of " + calls, -2, x.holds(0, i));
            }
            if (calls > 0) {
                Check.due("13: holds(0, 0) of " + calls, 1, x.holds(0, 0));
                Check.due("13: holds at the last of " + calls, 1, x.holds(0, calls - 1));
            }
        }
        CallAdvice x = advised(1);
        call(x, 2);
        x.giveBack();
        Check.due("13: a call that returned", -2, x.holds(0, 1));
        x.wouldHold(0, 3);
        Check.due("13: a call that was only tried", -2, x.holds(0, 1));
        x.unwind();
        Check.due("13: after unwind", -2, x.holds(0, 0));
    }

    /** 14: "How many pieces were given since the beginning." */
    private static void givenSinceTheBeginning() {
        CallAdvice x = advised(6);
        Check.due("14: at the beginning", 0, x.given());
        for (int n = 1; n <= 66; n++) {
            x.call(0);
            Check.due("14: given() also beyond what is kept", 6 * n, x.given());
            x.unwind();
            Check.due("14: given() after unwind", 6 * n, x.given());
        }
        for (int left = 5; left >= 0; left--) {
            x.drop();
            Check.due("14: given() after drop", 6 * 66, x.given());
        }
        Check.advise(x, 1, Check.DEEP, 0);
        Check.due("14: given() after advise", 6 * 66, x.given());
        x.giveBack();
        x.call(0);
        x.giveBack();
        Check.due("14: given() after a return", 6 * 66 + 1, x.given());
    }

    /** 15: "How often a piece with a number was given since the piece that has it now was made" */
    private static void countSinceThePieceWasMade() {
        CallAdvice x = advised(6);
        for (int piece = 0; piece < 6; piece++) {
            Check.due("15: at first", 0, x.count(piece));
        }
        call(x, 20);
        x.unwind();
        for (int piece = 0; piece < 6; piece++) {
            Check.due("15: after 20 calls", 20, x.count(piece));
        }
        for (int left = 5; left >= 0; left--) {
            x.drop();
        }
        for (int piece = 0; piece < 6; piece++) {
            Check.advise(x, 1, Check.DEEP, piece);
            Check.due("15: a new piece with the number " + piece, 0, x.count(piece));
        }
        call(x, 3);
        x.giveBack();
        x.giveBack();
        int[] want = {2, 2, 1, 0, 0, 0};
        for (int piece = 0; piece < 6; piece++) {
            Check.due("15: the new piece " + piece, want[piece], x.count(piece));
        }
        x = advised(1);
        for (int n = 1; n <= 100; n++) {
            x.call(0);
            x.unwind();
            Check.due("15: also beyond what is kept", n, x.count(0));
        }
    }

    /** 15: "there is none: -1" */
    private static void countOfNoPiece() {
        for (int pieces = 0; pieces <= 6; pieces++) {
            CallAdvice x = advised(pieces);
            call(x, 2);
            for (int piece : new int[] {MIN, -2, -1, pieces, pieces + 1, 6, MAX}) {
                Check.due("15: count(" + piece + ") of " + pieces, -1, x.count(piece));
            }
            for (int piece = 0; piece < pieces; piece++) {
                Check.due("15: count(" + piece + ") of " + pieces, 2, x.count(piece));
            }
            x.unwind();
            x.drop();
            Check.due("15: count of the one dropped of " + pieces, -1, x.count(pieces - 1));
        }
    }

    /** 16: "The piece that was given k pieces before the last one (0: the last one)" */
    private static void lastOfEachPlace() {
        CallAdvice x = advised(6);
        call(x, 10);
        for (int k = 0; k < 60; k++) {
            Check.due("16: last(" + k + ") of 60", 5 - k % 6, x.last(k));
        }
        call(x, 10);
        for (int k = 0; k < 64; k++) {
            Check.due("16: last(" + k + ") of 120", 5 - k % 6, x.last(k));
        }
        x.unwind();
        for (int left = 5; left >= 1; left--) {
            x.drop();
        }
        Check.due("16: the number stays when the piece is dropped", 5, x.last(0));
        x.call(0);
        Check.due("16: the newest", 0, x.last(0));
        Check.due("16: the one before", 5, x.last(1));
        Check.due("16: the oldest that is kept", 5 - 62 % 6, x.last(63));
    }

    /** 16: "there is none [..]: -1" */
    private static void lastOfNone() {
        for (int given = 0; given <= 20; given++) {
            CallAdvice x = advised(1);
            call(x, given);
            for (int k : new int[] {MIN, -2, -1, given, given + 1, 63, 64, MAX}) {
                Check.due("16: last(" + k + ") of " + given, -1, x.last(k));
            }
            if (given > 0) {
                Check.due("16: last(0) of " + given, 0, x.last(0));
                Check.due("16: the first of " + given, 0, x.last(given - 1));
            }
        }
    }

    /** 16: "or it is not kept: -1" */
    private static void lastNotKept() {
        CallAdvice x = advised(1);
        for (int given = 1; given <= 130; given++) {
            x.call(0);
            x.unwind();
            if (given < 62 || given > 66 && given < 127) {
                continue;
            }
            Check.due("16: last(62) of " + given, given >= 63 ? 0 : -1, x.last(62));
            Check.due("16: last(63) of " + given, given >= 64 ? 0 : -1, x.last(63));
            Check.due("16: last(64) of " + given, -1, x.last(64));
            Check.due("16: the first of " + given, given <= 64 ? 0 : -1, x.last(given - 1));
            Check.due("16: one beyond the first of " + given, -1, x.last(given));
            Check.due("16: last(-1) of " + given, -1, x.last(-1));
        }
    }

    /** 17: "1 if a piece's formula would hold at a call of a method made now, else 0" */
    private static void wouldHoldAtACallMadeNow() {
        CallAdvice x = new CallAdvice();
        for (int m = 0; m < 16; m++) {
            x.define(m, m % 8, m % 10, m);
        }
        Check.advise(x, 1, Check.NAME, 5);
        Check.advise(x, 0, Check.BY, 3);
        Check.advise(x, 0, Check.DEEP, 1);
        Check.advise(x, 0, Check.NAME, 5, Check.BELOW, 0);
        int[][] onNone = {{0, 5, 1}, {0, 15, 1}, {0, 4, 0}, {1, 3, 0}, {2, 0, 0}, {3, 5, 0}};
        for (int[] q : onNone) {
            Check.due("17: on none, wouldHold(" + q[0] + ", " + q[1] + ")", q[2], x.wouldHold(q[0], q[1]));
        }
        x.call(3);
        int[][] onOne = {{0, 5, 1}, {0, 4, 0}, {1, 0, 1}, {2, 0, 1}, {3, 5, 0}};
        for (int[] q : onOne) {
            Check.due("17: on one, wouldHold(" + q[0] + ", " + q[1] + ")", q[2], x.wouldHold(q[0], q[1]));
        }
        x.call(5);
        int[][] onTwo = {{0, 5, 1}, {0, 3, 0}, {1, 3, 0}, {2, 0, 1}, {3, 0, 1}};
        for (int[] q : onTwo) {
            Check.due("17: on two, wouldHold(" + q[0] + ", " + q[1] + ")", q[2], x.wouldHold(q[0], q[1]));
        }
        Check.due("17: no call was made", 2, x.depth());
    }

    /** 17: "there is no such piece: -1" */
    private static void wouldHoldOfNoPiece() {
        for (int pieces = 0; pieces <= 6; pieces++) {
            CallAdvice x = advised(pieces);
            for (int piece : new int[] {MIN, -2, -1, pieces, pieces + 1, 6, MAX}) {
                Check.due("17: wouldHold(" + piece + ", 0) of " + pieces, -1, x.wouldHold(piece, 0));
                Check.due("17: wouldHold(" + piece + ", 16) of " + pieces, -1, x.wouldHold(piece, 16));
            }
            for (int piece = 0; piece < pieces; piece++) {
                Check.due("17: wouldHold(" + piece + ", 0) of " + pieces, 1, x.wouldHold(piece, 0));
            }
            x.drop();
            Check.due("17: the one dropped of " + pieces, -1, x.wouldHold(pieces - 1, 0));
        }
    }

    /** 17: "method is not 0 to 15 [..]: -2" */
    private static void wouldHoldOfNoMethod() {
        CallAdvice x = advised(1);
        for (int calls = 0; calls < 20; calls++) {
            for (int method : new int[] {MIN, -2, -1, 16, 17, MAX}) {
                Check.due("17: wouldHold(0, " + method + ")", -2, x.wouldHold(0, method));
            }
            Check.due("17: wouldHold(0, 0)", 1, x.wouldHold(0, 0));
            Check.due("17: wouldHold(0, 15)", 1, x.wouldHold(0, 15));
            x.call(0);
        }
    }

    /** 17: "or the stack has 20 calls: -2" */
    private static void wouldHoldOnTwentyCalls() {
        CallAdvice x = new CallAdvice();
        Check.advise(x, 0, Check.DEEP, 19);
        call(x, 18);
        Check.due("17: on 18 calls", 0, x.wouldHold(0, 7));
        x.call(0);
        Check.due("17: on 19 calls", 1, x.wouldHold(0, 7));
        x.call(0);
        for (int method = 0; method <= 15; method++) {
            Check.due("17: on 20 calls, method " + method, -2, x.wouldHold(0, method));
        }
        Check.due("17: on 20 calls, the stack stays", 0, x.methodAt(19));
        x.giveBack();
        Check.due("17: on 19 calls again", 1, x.wouldHold(0, 7));
    }

    /** 18: "The set of methods at a call of which, made now, [..]: the number with the binary digit m for method m" */
    private static void wouldOfEachMethod() {
        for (int m = 0; m <= 15; m++) {
            CallAdvice x = new CallAdvice();
            x.define(m, 0, 1, 0);
            Check.advise(x, 0, Check.NAME, 1);
            Check.advise(x, 1, Check.NAME, 1, Check.NOT, 0);
            Check.advise(x, 0, Check.NAME, 1, Check.BELOW, 0);
            Check.due("18: method " + m + " alone", 1 << m, x.would(0));
            Check.due("18: all but method " + m, 65535 - (1 << m), x.would(1));
            Check.due("18: no method", 0, x.would(2));
            x.call(m);
            Check.due("18: in a call, method " + m + " alone", 1 << m, x.would(0));
            Check.due("18: in a call, all methods", 65535, x.would(2));
            Check.due("18: no call was made", 1, x.depth());
        }
    }

    /** 18: "there is no such piece: -1" */
    private static void wouldOfNoPiece() {
        for (int pieces = 0; pieces <= 6; pieces++) {
            CallAdvice x = advised(pieces);
            for (int piece : new int[] {MIN, -2, -1, pieces, pieces + 1, 6, MAX}) {
                Check.due("18: would(" + piece + ") of " + pieces, -1, x.would(piece));
            }
            for (int piece = 0; piece < pieces; piece++) {
                Check.due("18: would(" + piece + ") of " + pieces, 65535, x.would(piece));
            }
            x.drop();
            Check.due("18: the one dropped of " + pieces, -1, x.would(pieces - 1));
        }
    }

    /** 18: "the stack has 20 calls: -2" */
    private static void wouldOnTwentyCalls() {
        CallAdvice x = new CallAdvice();
        Check.advise(x, 0, Check.DEEP, 19);
        Check.advise(x, 0, Check.DEEP, 20);
        call(x, 18);
        Check.due("18: on 18 calls", 0, x.would(0));
        x.call(0);
        Check.due("18: on 19 calls", 65535, x.would(0));
        Check.due("18: on 19 calls, DEEP 20", 0, x.would(1));
        x.call(0);
        Check.due("18: on 20 calls", -2, x.would(0));
        Check.due("18: on 20 calls, DEEP 20", -2, x.would(1));
        Check.due("18: on 20 calls, the stack stays", 0, x.methodAt(19));
        x.giveBack();
        Check.due("18: on 19 calls again", 65535, x.would(0));
        x.unwind();
        Check.due("18: on none again", 0, x.would(0));
    }
}

/** Promises 4 to 7: token, clear, advise, drop. */
public final class DraftTest {
    public static void main(String[] args) {
        argumentRanges();
        argumentsNotLookedAt();
        formulasTaken();
        mostFormulas();
        mostTokens();
        orderOfTokenRefusals();
        clearEmpties();
        adviseRefuses();
        adviseEmptiesTheDraft();
        refusedAdviseKeepsTheDraft();
        adviseKeepsItsOwnFormula();
        dropTakesTheLast();
        dropLeavesNothingBehind();
        dropRefuses();
        draftDuringCalls();
        Check.end();
    }

    private static void argumentRanges() {
        int[][] ranges = {{Check.NAME, 0, 9}, {Check.CLASS, 0, 7}, {Check.KIN, 0, 7}, {Check.MARK, 0, 3},
            {Check.BY, 0, 7}, {Check.DEEP, 0, 20}};
        for (int[] r : ranges) {
            CallAdvice x = new CallAdvice();
            for (int a : new int[] {r[1] - 1, r[2] + 1, Integer.MIN_VALUE, Integer.MAX_VALUE}) {
                Check.due("4: token(" + r[0] + ", " + a + ")", -1, x.token(r[0], a));
            }
            for (int a = r[1]; a <= r[2]; a++) {
                Check.due("4: token(" + r[0] + ", " + a + ")", 1, x.token(r[0], a));
                x.clear();
            }
        }
        CallAdvice x = new CallAdvice();
        x.token(Check.DEEP, 0);
        for (int a : new int[] {-1, 0, 6, Integer.MIN_VALUE, Integer.MAX_VALUE}) {
            Check.due("4: token(9, " + a + ")", -1, x.token(Check.TIMES, a));
        }
        for (int a = 1; a <= 5; a++) {
            Check.due("4: token(9, " + a + ")", 1, x.token(Check.TIMES, a));
        }
        for (int kind : new int[] {-1, 14, Integer.MIN_VALUE, Integer.MAX_VALUE}) {
            Check.due("4: token(" + kind + ", 0)", -1, x.token(kind, 0));
            Check.due("4: token(" + kind + ", 1)", -1, x.token(kind, 1));
        }
    }

    private static void argumentsNotLookedAt() {
        int[] kinds = {Check.FLOW, Check.BELOW, Check.SINCE, Check.NOT, Check.AND, Check.OR, Check.ONLY};
        for (int kind : kinds) {
            for (int a : new int[] {-1, 99, Integer.MIN_VALUE, Integer.MAX_VALUE}) {
                CallAdvice x = new CallAdvice();
                x.token(Check.DEEP, 0);
                x.token(Check.DEEP, 0);
                Check.that("4: token(" + kind + ", " + a + ") is taken", x.token(kind, a) > 0);
            }
        }
    }

    private static void formulasTaken() {
        int[] ofOne = {Check.FLOW, Check.BELOW, Check.TIMES, Check.NOT, Check.ONLY};
        for (int kind : ofOne) {
            CallAdvice x = new CallAdvice();
            Check.due("4: token(" + kind + ", 1) on none", -3, x.token(kind, 1));
            x.token(Check.NAME, 0);
            Check.due("4: token(" + kind + ", 1) on one", 1, x.token(kind, 1));
            x.token(Check.NAME, 0);
            Check.due("4: token(" + kind + ", 1) on two", 2, x.token(kind, 1));
        }
        int[] ofTwo = {Check.SINCE, Check.AND, Check.OR};
        for (int kind : ofTwo) {
            CallAdvice x = new CallAdvice();
            Check.due("4: token(" + kind + ", 1) on none", -3, x.token(kind, 1));
            Check.due("4: first formula", 1, x.token(Check.NAME, 0));
            Check.due("4: token(" + kind + ", 1) on one", -3, x.token(kind, 1));
            Check.due("4: second formula", 2, x.token(Check.NAME, 0));
            Check.due("4: third formula", 3, x.token(Check.NAME, 0));
            Check.due("4: token(" + kind + ", 1) on three", 2, x.token(kind, 1));
            Check.due("4: token(" + kind + ", 1) on two", 1, x.token(kind, 1));
        }
    }

    private static void mostFormulas() {
        for (int kind = Check.NAME; kind <= Check.DEEP; kind++) {
            CallAdvice x = new CallAdvice();
            for (int n = 1; n <= 6; n++) {
                Check.due("4: formula " + n, n, x.token(kind, 0));
            }
            Check.due("4: token(" + kind + ", 0) on six", -4, x.token(kind, 0));
            Check.due("4: token(NOT) on six", 6, x.token(Check.NOT, 0));
            Check.due("4: token(AND) on six", 5, x.token(Check.AND, 0));
            Check.due("4: token(" + kind + ", 0) on five", 6, x.token(kind, 0));
        }
    }

    private static void mostTokens() {
        CallAdvice x = new CallAdvice();
        Check.due("4: token 1", 1, x.token(Check.DEEP, 0));
        for (int n = 2; n <= 16; n++) {
            Check.due("4: a wrong token is not counted", -1, x.token(Check.NAME, 10));
            Check.due("4: a token without formulas is not counted", -3, x.token(Check.AND, 0));
            Check.due("4: token " + n, 1, x.token(Check.NOT, 0));
        }
        Check.due("4: token 17, NOT", -2, x.token(Check.NOT, 0));
        Check.due("4: token 17, NAME", -2, x.token(Check.NAME, 0));
        Check.due("6: a piece of 16 tokens", 0, x.advise(0));
        Check.due("6: 15 times NOT", 0, x.would(0));
        for (int n = 1; n <= 16; n++) {
            Check.that("6: token " + n + " after advise", x.token(n == 1 ? Check.DEEP : Check.FLOW, 0) == 1);
        }
        Check.due("4: token 17 again", -2, x.token(Check.FLOW, 0));
        Check.due("5: clear() after 16 tokens", 1, x.clear());
        for (int n = 1; n <= 16; n++) {
            Check.that("5: token " + n + " after clear", x.token(n == 1 ? Check.DEEP : Check.FLOW, 0) == 1);
        }
        Check.due("4: token 17 after clear", -2, x.token(Check.FLOW, 0));
    }

    private static void orderOfTokenRefusals() {
        CallAdvice x = new CallAdvice();
        for (int n = 1; n <= 6; n++) {
            x.token(Check.DEEP, 0);
        }
        Check.due("4: wrong argument and six formulas", -1, x.token(Check.DEEP, 21));
        for (int n = 7; n <= 16; n++) {
            x.token(Check.NOT, 0);
        }
        Check.due("4: 16 tokens and six formulas", -2, x.token(Check.DEEP, 0));
        Check.due("4: wrong argument and 16 tokens", -1, x.token(Check.TIMES, 0));
        Check.due("5: clear()", 6, x.clear());
        Check.due("4: wrong argument and no formula", -1, x.token(Check.TIMES, 6));
        Check.due("4: no formula", -3, x.token(Check.TIMES, 5));
        x.token(Check.DEEP, 0);
        for (int n = 2; n <= 16; n++) {
            x.token(Check.NOT, 0);
        }
        Check.due("4: 16 tokens and one formula too few", -2, x.token(Check.AND, 0));
    }

    private static void clearEmpties() {
        CallAdvice x = new CallAdvice();
        for (int n = 1; n <= 6; n++) {
            x.token(Check.NAME, 0);
            Check.due("5: clear() of one", 1, x.clear());
            Check.due("5: clear() of none", 0, x.clear());
        }
        x.token(Check.NAME, 0);
        x.token(Check.NAME, 0);
        x.token(Check.NAME, 0);
        x.token(Check.OR, 0);
        Check.due("5: clear() of two", 2, x.clear());
        Check.due("5: token(10, 0) after clear", -3, x.token(Check.NOT, 0));
        Check.due("5: advise(0) after clear", -2, x.advise(0));
        Check.due("5: first formula after clear", 1, x.token(Check.NAME, 1));
        Check.due("5: advise(0)", 0, x.advise(0));
        Check.due("5: only what came after clear counts", 0, x.would(0));
    }

    private static void adviseRefuses() {
        CallAdvice x = new CallAdvice();
        for (int time : new int[] {-1, 2, Integer.MIN_VALUE, Integer.MAX_VALUE}) {
            Check.due("6: advise(" + time + ")", -1, x.advise(time));
        }
        Check.due("6: advise(0) of none", -2, x.advise(0));
        Check.due("6: advise(1) of none", -2, x.advise(1));
        x.token(Check.NAME, 0);
        x.token(Check.NAME, 0);
        Check.due("6: advise(0) of two", -2, x.advise(0));
        Check.due("6: clear()", 2, x.clear());
        for (int piece = 0; piece < 6; piece++) {
            Check.due("6: advise", piece, Check.advise(x, piece % 2, Check.NAME, 0));
        }
        Check.due("6: a seventh piece", -3, Check.advise(x, 1, Check.NAME, 0));
        Check.due("6: a seventh piece with time 2", -1, x.advise(2));
        x.call(0);
        Check.due("6: a seventh piece in a call", -3, x.advise(1));
        x.token(Check.NAME, 0);
        Check.due("6: a seventh piece of two formulas", -2, x.advise(1));
        x.clear();
        x.unwind();
        x.drop();
        x.call(0);
        Check.due("6: in a call, time 2", -1, x.advise(2));
        Check.due("6: in a call, no formula", -2, x.advise(0));
        Check.due("6: in a call", -4, Check.advise(x, 0, Check.NAME, 0));
        x.giveBack();
        Check.due("6: after the call", 5, x.advise(0));
    }

    private static void adviseEmptiesTheDraft() {
        CallAdvice x = new CallAdvice();
        Check.due("6: advise", 0, Check.advise(x, 0, Check.NAME, 0));
        Check.due("6: the draft is empty", 0, x.clear());
        Check.due("6: advise of none", -2, x.advise(0));
        Check.due("6: one piece alone", -1, x.count(1));
    }

    private static void refusedAdviseKeepsTheDraft() {
        CallAdvice x = new CallAdvice();
        x.token(Check.NAME, 0);
        x.advise(2);
        Check.due("6: the draft after a wrong time", 2, x.token(Check.NAME, 1));
        x.advise(0);
        Check.due("6: the draft after a wrong number of formulas", 1, x.token(Check.OR, 0));
        x.call(3);
        x.advise(0);
        x.unwind();
        Check.due("6: the draft after a call", 0, x.advise(1));
        Check.due("6: it holds", 65535, x.would(0));
    }

    private static void adviseKeepsItsOwnFormula() {
        CallAdvice x = new CallAdvice();
        x.define(1, 0, 1, 0);
        x.define(2, 0, 2, 0);
        Check.advise(x, 0, Check.NAME, 1);
        Check.advise(x, 0, Check.NAME, 2, Check.NOT, 0);
        x.token(Check.NAME, 5);
        x.token(Check.NOT, 0);
        Check.due("6: piece 0", 1 << 1, x.would(0));
        Check.due("6: piece 1", 65535 - (1 << 2), x.would(1));
    }

    private static void dropTakesTheLast() {
        CallAdvice x = new CallAdvice();
        for (int piece = 0; piece < 6; piece++) {
            Check.advise(x, 0, Check.DEEP, piece);
        }
        for (int left = 5; left >= 0; left--) {
            Check.due("7: drop()", left, x.drop());
            Check.due("7: the last one is gone", -1, x.count(left));
            Check.due("7: the one before is there", left == 0 ? -1 : 0, x.count(left - 1));
        }
        Check.due("7: drop() of none", -1, x.drop());
        Check.due("7: the number is used again", 0, Check.advise(x, 0, Check.NAME, 1));
        Check.due("7: with the new formula", 0, x.would(0));
        x.token(Check.NAME, 0);
        Check.due("7: drop() with a draft", 0, x.drop());
        Check.due("7: the draft stays", 0, x.advise(1));
        Check.due("7: the time is the new one", 0, x.call(0));
        Check.due("7: the time is the new one, at the return", 1, x.giveBack());
    }

    private static void dropLeavesNothingBehind() {
        CallAdvice x = new CallAdvice();
        Check.advise(x, 0, Check.DEEP, 0);
        Check.advise(x, 1, Check.DEEP, 0);
        x.drop();
        Check.due("7: the piece left is given", 1, x.call(0));
        Check.due("7: the dropped piece is not given", 0, x.giveBack());
        x.drop();
        Check.advise(x, 0, Check.DEEP, 0, Check.NOT, 0);
        x.drop();
        Check.due("7: a shorter formula in its place", 0, Check.advise(x, 0, Check.DEEP, 0));
        Check.due("7: the shorter formula alone counts", 65535, x.would(0));
    }

    private static void dropRefuses() {
        CallAdvice x = new CallAdvice();
        x.call(0);
        Check.due("7: drop() of none in a call", -1, x.drop());
        x.giveBack();
        Check.advise(x, 0, Check.NAME, 0);
        x.call(0);
        Check.due("7: drop() in a call", -2, x.drop());
        Check.due("7: the piece is still there", 1, x.count(0));
        x.giveBack();
        Check.due("7: drop() after the call", 0, x.drop());
    }

    private static void draftDuringCalls() {
        CallAdvice x = new CallAdvice();
        x.call(0);
        Check.due("4: token in a call", 1, x.token(Check.NAME, 0));
        Check.due("4: second token in a call", 2, x.token(Check.NAME, 0));
        Check.due("5: clear in a call", 2, x.clear());
        Check.due("4: token in a call again", 1, x.token(Check.NAME, 0));
        x.giveBack();
        Check.due("6: the draft outlives the call", 0, x.advise(0));
    }
}

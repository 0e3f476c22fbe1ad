/** Promises 4 to 7: a test for each sentence that names a boundary, its words above the test. */
public final class EdgesOfDraftTest {
    private static final int MIN = Integer.MIN_VALUE;
    private static final int MAX = Integer.MAX_VALUE;
    private static final int[] OF_ONE = {Check.FLOW, Check.BELOW, Check.TIMES, Check.NOT, Check.ONLY};
    private static final int[] OF_TWO = {Check.SINCE, Check.AND, Check.OR};

    public static void main(String[] args) {
        kindOfToken();
        argumentOfToken();
        argumentNotLookedAt();
        sixteenTokens();
        fewerFormulasThanOne();
        fewerFormulasThanTwo();
        sixFormulas();
        tokenAnswers();
        clearOfEveryNumber();
        clearTakesSixteenAgain();
        adviseTakesSixteenAgain();
        timeOfAdvise();
        notExactlyOneFormula();
        sixPieces();
        sixPiecesOfSixteenTokens();
        adviseInACall();
        adviseAnswersItsNumber();
        dropTheLast();
        dropTakesTheWholeFormula();
        dropOfNone();
        dropInACall();
        dropAnswersWhatIsLeft();
        Check.end();
    }

    /** A draft of so many formulas, by one token each. */
    private static CallAdvice drafted(int formulas) {
        CallAdvice x = new CallAdvice();
        for (int n = 0; n < formulas; n++) {
            x.token(Check.DEEP, n);
        }
        return x;
    }

    /** So many tokens that leave the formulas' number. */
    private static void fill(CallAdvice x, int tokens) {
        for (int n = 0; n < tokens; n++) {
            x.token(Check.NOT, 0);
        }
    }

    /** 4: "kind is not 0 to 13 [..]: -1" */
    private static void kindOfToken() {
        for (int kind : new int[] {MIN, -2, -1, 14, 15, MAX}) {
            for (int formulas = 0; formulas <= 6; formulas++) {
                CallAdvice x = drafted(formulas);
                for (int a : new int[] {-1, 0, 1, 5}) {
                    Check.due("4: token(" + kind + ", " + a + ")", -1, x.token(kind, a));
                }
                Check.due("4: the draft stays", formulas, x.clear());
            }
        }
        for (int kind = 0; kind <= 13; kind++) {
            Check.that("4: token(" + kind + ", 1) is taken", drafted(2).token(kind, 1) > 0);
        }
    }

    /** 4: "or a is not in its range for NAME to DEEP and TIMES [..]: -1" */
    private static void argumentOfToken() {
        int[][] ranges = {{Check.NAME, 0, 9}, {Check.CLASS, 0, 7}, {Check.KIN, 0, 7}, {Check.MARK, 0, 3},
            {Check.BY, 0, 7}, {Check.DEEP, 0, 20}, {Check.TIMES, 1, 5}};
        for (int[] r : ranges) {
            int formulas = r[0] == Check.TIMES ? 2 : 3;
            for (int a = r[1]; a <= r[2]; a++) {
                Check.due("4: token(" + r[0] + ", " + a + ")", formulas, drafted(2).token(r[0], a));
            }
            for (int a : new int[] {MIN, r[1] - 2, r[1] - 1, r[2] + 1, r[2] + 2, MAX}) {
                CallAdvice x = drafted(2);
                Check.due("4: token(" + r[0] + ", " + a + ")", -1, x.token(r[0], a));
                Check.due("4: the draft stays", 2, x.clear());
            }
        }
    }

    /** 4: "(for others it is not looked at)" */
    private static void argumentNotLookedAt() {
        for (int a : new int[] {MIN, -1, 0, 1, 5, 6, 21, MAX}) {
            for (int kind : new int[] {Check.FLOW, Check.BELOW, Check.NOT, Check.ONLY}) {
                CallAdvice x = drafted(1);
                Check.due("4: token(" + kind + ", " + a + ")", 1, x.token(kind, a));
                x.advise(0);
                boolean holds = kind == Check.FLOW || kind == Check.ONLY;
                Check.due("4: where " + kind + " with " + a + " holds", holds ? 65535 : 0, x.would(0));
            }
            for (int kind : OF_TWO) {
                CallAdvice x = drafted(2);
                Check.due("4: token(" + kind + ", " + a + ")", 1, x.token(kind, a));
                x.advise(0);
                Check.due("4: where " + kind + " with " + a + " holds", kind == Check.OR ? 65535 : 0, x.would(0));
            }
        }
    }

    /** 4: "the draft has had 16 tokens: -2" */
    private static void sixteenTokens() {
        for (int formulas = 1; formulas <= 6; formulas++) {
            CallAdvice x = drafted(formulas);
            fill(x, 15 - formulas);
            Check.due("4: token 16 on " + formulas, formulas, x.token(Check.NOT, 0));
            for (int kind = Check.NAME; kind <= Check.ONLY; kind++) {
                Check.due("4: token 17, " + kind + " on " + formulas, -2, x.token(kind, 1));
            }
            Check.due("4: the draft stays", formulas, x.clear());
        }
        CallAdvice x = new CallAdvice();
        for (int n = 1; n <= 40; n++) {
            x.token(Check.AND, 0);
            x.token(Check.NAME, -1);
        }
        x.token(Check.NAME, 0);
        fill(x, 14);
        Check.due("4: refused tokens were not had", 2, x.token(Check.NAME, 0));
        Check.due("4: token 17", -2, x.token(Check.AND, 0));
    }

    /** 4: "it has fewer formulas than the token takes: -3", for a token that takes one */
    private static void fewerFormulasThanOne() {
        for (int kind : OF_ONE) {
            Check.due("4: token(" + kind + ", 1) on none", -3, drafted(0).token(kind, 1));
            for (int formulas = 1; formulas <= 6; formulas++) {
                Check.due("4: token(" + kind + ", 1) on " + formulas, formulas, drafted(formulas).token(kind, 1));
            }
        }
    }

    /** 4: "it has fewer formulas than the token takes: -3", for a token that takes two */
    private static void fewerFormulasThanTwo() {
        for (int kind : OF_TWO) {
            for (int formulas = 0; formulas <= 1; formulas++) {
                CallAdvice x = drafted(formulas);
                Check.due("4: token(" + kind + ", 1) on " + formulas, -3, x.token(kind, 1));
                Check.due("4: the draft stays", formulas, x.clear());
            }
            for (int formulas = 2; formulas <= 6; formulas++) {
                Check.due("4: token(" + kind + ", 1) on " + formulas, formulas - 1, drafted(formulas).token(kind, 1));
            }
        }
    }

    /** 4: "the token takes none and there are 6: -4" */
    private static void sixFormulas() {
        for (int kind = Check.NAME; kind <= Check.DEEP; kind++) {
            Check.due("4: token(" + kind + ", 1) on 5", 6, drafted(5).token(kind, 1));
            CallAdvice x = drafted(6);
            Check.due("4: token(" + kind + ", 1) on 6", -4, x.token(kind, 1));
            Check.due("4: one less", 5, x.token(Check.OR, 0));
            Check.due("4: token(" + kind + ", 1) on 5 again", 6, x.token(kind, 1));
            Check.due("4: token(" + kind + ", 1) on 6 again", -4, x.token(kind, 1));
        }
        for (int kind : OF_ONE) {
            Check.due("4: token(" + kind + ", 1) takes one of six", 6, drafted(6).token(kind, 1));
        }
        for (int kind : OF_TWO) {
            Check.due("4: token(" + kind + ", 1) takes two of six", 5, drafted(6).token(kind, 1));
        }
    }

    /** 4: "Else answers how many formulas the draft has then." */
    private static void tokenAnswers() {
        CallAdvice x = new CallAdvice();
        int[] kinds = {Check.NAME, Check.NAME, Check.NAME, Check.NAME, Check.NAME, Check.NAME, Check.NOT, Check.AND,
            Check.OR, Check.NAME, Check.SINCE, Check.AND, Check.OR, Check.AND, Check.TIMES, Check.NAME};
        int[] want = {1, 2, 3, 4, 5, 6, 6, 5, 4, 5, 4, 3, 2, 1, 1, 2};
        for (int n = 0; n < 16; n++) {
            Check.due("4: token number " + (n + 1), want[n], x.token(kinds[n], 1));
        }
    }

    /** 5: "The draft becomes empty [..]. Answers how many formulas it had." */
    private static void clearOfEveryNumber() {
        for (int formulas = 0; formulas <= 6; formulas++) {
            CallAdvice x = drafted(formulas);
            Check.due("5: clear() of " + formulas, formulas, x.clear());
            Check.due("5: clear() again", 0, x.clear());
            Check.due("5: there is nothing to take", -3, x.token(Check.NOT, 0));
            Check.due("5: there is nothing to advise", -2, x.advise(0));
            for (int n = 1; n <= 6; n++) {
                Check.due("5: there is room for formula " + n, n, x.token(Check.NAME, 0));
            }
        }
        CallAdvice x = drafted(6);
        x.token(Check.AND, 0);
        Check.due("5: formulas, not tokens", 5, x.clear());
        x.token(Check.NAME, 0);
        x.call(0);
        Check.due("5: clear() in a call", 1, x.clear());
    }

    /** 5: "and takes 16 tokens again" */
    private static void clearTakesSixteenAgain() {
        for (int had = 0; had <= 16; had++) {
            CallAdvice x = new CallAdvice();
            for (int n = 0; n < had; n++) {
                x.token(n == 0 ? Check.DEEP : Check.NOT, 0);
            }
            x.clear();
            for (int n = 1; n <= 16; n++) {
                Check.due("5: token " + n + " after clear", 1, x.token(n == 1 ? Check.NAME : Check.NOT, 0));
            }
            Check.due("5: token 17 after clear", -2, x.token(Check.NOT, 0));
        }
    }

    /** 6: "the draft becomes empty, and takes 16 tokens again" */
    private static void adviseTakesSixteenAgain() {
        for (int had = 1; had <= 16; had++) {
            CallAdvice x = drafted(1);
            fill(x, had - 1);
            Check.due("6: a piece of " + had + " tokens", 0, x.advise(0));
            Check.due("6: it holds", had % 2 == 1 ? 65535 : 0, x.would(0));
            Check.due("6: there is nothing to take", -3, x.token(Check.NOT, 0));
            Check.due("6: there is nothing to advise", -2, x.advise(0));
            for (int n = 1; n <= 16; n++) {
                Check.due("6: token " + n + " after advise", 1, x.token(n == 1 ? Check.NAME : Check.NOT, 0));
            }
            Check.due("6: token 17 after advise", -2, x.token(Check.NOT, 0));
            Check.due("6: a second piece of 16 tokens", 1, x.advise(1));
            Check.due("6: the first stays", had % 2 == 1 ? 65535 : 0, x.would(0));
        }
    }

    /** 6: "time is not 0 or 1: -1" */
    private static void timeOfAdvise() {
        CallAdvice x = drafted(1);
        for (int time : new int[] {MIN, -2, -1, 2, 3, MAX}) {
            Check.due("6: advise(" + time + ")", -1, x.advise(time));
            Check.due("6: there is no piece", -1, x.count(0));
        }
        Check.due("6: the draft stays; advise(0)", 0, x.advise(0));
        x.token(Check.DEEP, 0);
        Check.due("6: advise(1)", 1, x.advise(1));
        Check.due("6: time 0 is given at a call", 1, x.call(0));
        Check.due("6: it is piece 0", 0, x.last(0));
        Check.due("6: time 1 is given at a return", 1, x.giveBack());
        Check.due("6: it is piece 1", 1, x.last(0));
    }

    /** 6: "the draft has not exactly one formula: -2" */
    private static void notExactlyOneFormula() {
        for (int formulas = 0; formulas <= 6; formulas++) {
            CallAdvice x = drafted(formulas);
            int want = formulas == 1 ? 0 : -2;
            Check.due("6: advise(0) of " + formulas, want, x.advise(0));
            Check.due("6: the draft afterwards", formulas == 1 ? 0 : formulas, x.clear());
            Check.due("6: the pieces afterwards", formulas == 1 ? 0 : -1, x.count(0));
        }
    }

    /** 6: "there are 6 pieces: -3" */
    private static void sixPieces() {
        CallAdvice x = new CallAdvice();
        for (int piece = 0; piece < 6; piece++) {
            Check.due("6: piece " + piece, piece, Check.advise(x, 0, Check.DEEP, piece));
        }
        Check.due("6: a seventh piece", -3, Check.advise(x, 0, Check.DEEP, 6));
        Check.due("6: a seventh piece with time 1", -3, x.advise(1));
        Check.due("6: there is none", -1, x.count(6));
        Check.due("6: one less", 5, x.drop());
        Check.due("6: the draft stayed", 5, x.advise(0));
        for (int n = 0; n < 7; n++) {
            x.call(0);
        }
        for (int piece = 0; piece < 6; piece++) {
            int deep = piece == 5 ? 6 : piece;
            Check.due("6: piece " + piece + " has its own formula", 7 - deep, x.count(piece));
        }
    }

    /** 6: all six pieces with all 16 tokens, so that each has room for its own */
    private static void sixPiecesOfSixteenTokens() {
        CallAdvice x = new CallAdvice();
        for (int m = 0; m < 16; m++) {
            x.define(m, 0, m % 10, 0);
        }
        for (int piece = 0; piece < 6; piece++) {
            x.token(Check.NAME, piece + 4);
            fill(x, 13);
            x.token(Check.NAME, 0);
            Check.due("6: token 16 of piece " + piece, 1, x.token(Check.OR, 0));
            Check.due("6: piece " + piece + " of 16 tokens", piece, x.advise(piece % 2));
        }
        for (int piece = 0; piece < 6; piece++) {
            int others = 65535 & ~(0x401 << piece + 4);
            Check.due("6: piece " + piece + " has its own 16 tokens", others | 0x401, x.would(piece));
        }
    }

    /** 6: "the stack is not empty: -4" */
    private static void adviseInACall() {
        CallAdvice x = drafted(1);
        for (int calls = 1; calls <= 20; calls++) {
            x.call(0);
            Check.due("6: advise(0) in " + calls + " calls", -4, x.advise(0));
            Check.due("6: advise(1) in " + calls + " calls", -4, x.advise(1));
        }
        Check.due("6: there is no piece", -1, x.count(0));
        x.unwind();
        Check.due("6: advise(0) after unwind", 0, x.advise(0));
        x.token(Check.DEEP, 0);
        x.call(0);
        x.giveBack();
        Check.due("6: advise(1) after a return", 1, x.advise(1));
    }

    /** 6: "Else answers its number." */
    private static void adviseAnswersItsNumber() {
        CallAdvice x = new CallAdvice();
        for (int pieces = 0; pieces < 6; pieces++) {
            Check.due("6: the next number", pieces, Check.advise(x, 1, Check.DEEP, 0));
            Check.due("6: drop()", pieces, x.drop());
            Check.due("6: the same number again", pieces, Check.advise(x, 0, Check.DEEP, 0));
        }
    }

    /** 7: "Takes the last piece of advice away." */
    private static void dropTheLast() {
        CallAdvice x = new CallAdvice();
        for (int piece = 0; piece < 6; piece++) {
            Check.advise(x, 0, Check.DEEP, 0);
        }
        for (int left = 5; left >= 0; left--) {
            x.drop();
            Check.due("7: so many are given", left, x.call(0));
            Check.due("7: the one before the last is there", left == 0 ? -1 : 6 - left, x.count(left - 1));
            Check.due("7: the last is not", -1, x.count(left));
            x.giveBack();
        }
    }

    /** 7: "Takes the last piece of advice away", all of it: a shorter one in its place has no token of it */
    private static void dropTakesTheWholeFormula() {
        for (int tokens = 2; tokens <= 16; tokens++) {
            CallAdvice x = drafted(1);
            fill(x, tokens - 1);
            x.advise(1);
            x.drop();
            for (int fewer = 1; fewer < tokens; fewer++) {
                x.token(Check.DEEP, 0);
                fill(x, fewer - 1);
                x.advise(0);
                Check.due("7: " + fewer + " tokens after " + tokens, fewer % 2 == 1 ? 65535 : 0, x.would(0));
                x.drop();
            }
        }
    }

    /** 7: "There is none: -1" */
    private static void dropOfNone() {
        CallAdvice x = drafted(1);
        Check.due("7: drop() on a new object", -1, x.drop());
        Check.due("7: the draft stays", 0, x.advise(0));
        Check.due("7: drop() of one", 0, x.drop());
        Check.due("7: drop() when all are gone", -1, x.drop());
        Check.due("7: drop() once more", -1, x.drop());
        Check.due("7: the next number is 0", 0, Check.advise(x, 0, Check.DEEP, 0));
    }

    /** 7: "the stack is not empty: -2" */
    private static void dropInACall() {
        CallAdvice x = new CallAdvice();
        Check.advise(x, 0, Check.DEEP, 0);
        Check.advise(x, 0, Check.DEEP, 0);
        for (int calls = 1; calls <= 20; calls++) {
            x.call(0);
            Check.due("7: drop() in " + calls + " calls", -2, x.drop());
            Check.due("7: the last is there", calls, x.count(1));
        }
        x.unwind();
        Check.due("7: drop() after unwind", 1, x.drop());
        x.call(0);
        x.giveBack();
        Check.due("7: drop() after a return", 0, x.drop());
    }

    /** 7: "Else answers how many are left." */
    private static void dropAnswersWhatIsLeft() {
        for (int pieces = 1; pieces <= 6; pieces++) {
            CallAdvice x = new CallAdvice();
            for (int piece = 0; piece < pieces; piece++) {
                Check.advise(x, 1, Check.DEEP, 0);
            }
            for (int left = pieces - 1; left >= 0; left--) {
                Check.due("7: drop() of " + (left + 1), left, x.drop());
            }
        }
    }
}

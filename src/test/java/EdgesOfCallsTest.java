/** Promises 8 to 12: a test for each sentence that names a boundary, its words above the test. */
public final class EdgesOfCallsTest {
    private static final int MIN = Integer.MIN_VALUE;
    private static final int MAX = Integer.MAX_VALUE;

    public static void main(String[] args) {
        methodOfCall();
        twentyCalls();
        callAnswers();
        lastCallReturns();
        giveBackOnEmpty();
        giveBackAnswers();
        unwindAll();
        unwindGivesNothing();
        unwindAnswers();
        depths();
        methodOfEachCall();
        methodOfNoCall();
        Check.end();
    }

    private static CallAdvice called(int calls) {
        CallAdvice x = new CallAdvice();
        for (int n = 0; n < calls; n++) {
            x.call(n * 7 % 16);
        }
        return x;
    }

    /** So many pieces with time 0 and so many with time 1, all holding everywhere; the former come first. */
    private static CallAdvice advised(int before, int after) {
        CallAdvice x = new CallAdvice();
        for (int n = 0; n < before + after; n++) {
            Check.advise(x, n < before ? 0 : 1, Check.DEEP, 0);
        }
        return x;
    }

    /** 8: "method is not 0 to 15: -1" */
    private static void methodOfCall() {
        CallAdvice x = advised(3, 3);
        for (int method : new int[] {MIN, -2, -1, 16, 17, MAX}) {
            Check.due("8: call(" + method + ")", -1, x.call(method));
            Check.due("8: no call was made", 0, x.depth());
            Check.due("8: nothing was given", 0, x.given());
        }
        for (int method = 0; method <= 15; method++) {
            Check.due("8: call(" + method + ")", 3, x.call(method));
            Check.due("8: it was made", method, x.methodAt(method));
        }
        Check.due("8: call(16) on others", -1, x.call(16));
        Check.due("8: depth()", 16, x.depth());
    }

    /** 8: "the stack has 20 calls: -2" */
    private static void twentyCalls() {
        CallAdvice x = advised(1, 1);
        for (int n = 1; n <= 20; n++) {
            Check.due("8: call " + n, 1, x.call(3));
        }
        for (int method = 0; method <= 15; method++) {
            Check.due("8: call 21, of method " + method, -2, x.call(method));
        }
        Check.due("8: nothing was given", 20, x.given());
        Check.due("8: depth()", 20, x.depth());
        Check.due("8: the last call", 3, x.methodAt(19));
        x.giveBack();
        Check.due("8: call 20 again", 1, x.call(4));
        Check.due("8: call 21 again", -2, x.call(5));
        Check.due("8: the last call again", 4, x.methodAt(19));
        x.unwind();
        Check.due("8: after unwind", 1, x.call(6));
    }

    /** 8: "Else answers how many pieces were given." */
    private static void callAnswers() {
        for (int before = 0; before <= 6; before++) {
            for (int after = 0; before + after <= 6; after++) {
                CallAdvice x = advised(before, after);
                Check.due("8: " + before + " before, " + after + " after", before, x.call(0));
                Check.due("8: not those of the call before", before, x.call(0));
                Check.due("8: given()", 2 * before, x.given());
            }
        }
        CallAdvice x = new CallAdvice();
        x.define(1, 0, 1, 0);
        Check.advise(x, 0, Check.NAME, 1);
        Check.due("8: the formula does not hold", 0, x.call(0));
        Check.due("8: the formula holds", 1, x.call(1));
        Check.due("8: it holds at an older call alone", 0, x.call(0));
    }

    /** 9: "The last call returns." */
    private static void lastCallReturns() {
        CallAdvice x = called(20);
        for (int left = 19; left >= 0; left--) {
            Check.due("9: giveBack()", 0, x.giveBack());
            Check.due("9: depth()", left, x.depth());
            Check.due("9: the call is gone", -1, x.methodAt(left));
            Check.due("9: the one before is there", left == 0 ? -1 : (left - 1) * 7 % 16, x.methodAt(left - 1));
        }
    }

    /** 9: "The stack is empty: -1." */
    private static void giveBackOnEmpty() {
        CallAdvice x = advised(0, 6);
        Check.due("9: at first", -1, x.giveBack());
        x.call(0);
        Check.due("9: of the one call", 6, x.giveBack());
        Check.due("9: after it", -1, x.giveBack());
        Check.due("9: and once more", -1, x.giveBack());
        x.call(0);
        x.unwind();
        Check.due("9: after unwind", -1, x.giveBack());
        Check.due("9: nothing more was given", 6, x.given());
        Check.due("9: depth()", 0, x.depth());
    }

    /** 9: "Else answers how many pieces were given." */
    private static void giveBackAnswers() {
        for (int after = 0; after <= 6; after++) {
            for (int before = 0; before + after <= 6; before++) {
                CallAdvice x = advised(before, after);
                Check.callAll(x, 0, 0);
                Check.due("9: " + before + " before, " + after + " after", after, x.giveBack());
                Check.due("9: not those of the return before", after, x.giveBack());
                Check.due("9: given()", 2 * before + 2 * after, x.given());
            }
        }
        CallAdvice x = new CallAdvice();
        x.define(1, 0, 1, 0);
        Check.advise(x, 1, Check.NAME, 1);
        Check.callAll(x, 0, 1, 0);
        Check.due("9: it holds at an older call alone", 0, x.giveBack());
        Check.due("9: the formula holds", 1, x.giveBack());
        Check.due("9: the formula does not hold", 0, x.giveBack());
        x = new CallAdvice();
        Check.advise(x, 1, Check.DEEP, 19);
        for (int n = 0; n < 20; n++) {
            x.call(0);
        }
        Check.due("9: a return on a full stack", 1, x.giveBack());
        Check.due("9: the return after it", 0, x.giveBack());
    }

    /** 10: "All calls return, one after the other" */
    private static void unwindAll() {
        for (int calls = 0; calls <= 20; calls++) {
            CallAdvice x = called(calls);
            x.unwind();
            Check.due("10: depth()", 0, x.depth());
            for (int i = 0; i <= 20; i++) {
                Check.due("10: methodAt(" + i + ")", -1, x.methodAt(i));
            }
            Check.due("10: giveBack()", -1, x.giveBack());
            Check.due("10: classes can be changed", -1, x.derive(1, 0));
            for (int n = 0; n < 20; n++) {
                Check.due("10: there is room", 0, x.call(0));
            }
        }
    }

    /** 10: "nothing is given" */
    private static void unwindGivesNothing() {
        for (int calls : new int[] {0, 1, 20}) {
            CallAdvice x = advised(2, 4);
            for (int n = 0; n < calls; n++) {
                x.call(0);
            }
            x.unwind();
            Check.due("10: given()", 2 * calls, x.given());
            Check.due("10: count(5)", 0, x.count(5));
            Check.due("10: count(0)", calls, x.count(0));
            Check.due("10: last(0)", calls == 0 ? -1 : 1, x.last(0));
        }
    }

    /** 10: "Answers how many there were." */
    private static void unwindAnswers() {
        for (int calls = 0; calls <= 20; calls++) {
            CallAdvice x = called(calls);
            Check.due("10: unwind() of " + calls, calls, x.unwind());
            Check.due("10: unwind() again", 0, x.unwind());
        }
        CallAdvice x = called(20);
        x.call(0);
        x.giveBack();
        Check.due("10: unwind() of 19 after a refused call", 19, x.unwind());
    }

    /** 11: "How many calls are on the stack." */
    private static void depths() {
        CallAdvice x = new CallAdvice();
        for (int n = 0; n <= 20; n++) {
            Check.due("11: depth() after " + n + " calls", n, x.depth());
            x.call(0);
        }
        Check.due("11: depth() after a refused call", 20, x.depth());
        x.call(-1);
        Check.due("11: depth() after a wrong call", 20, x.depth());
        for (int n = 19; n >= 0; n--) {
            x.giveBack();
            Check.due("11: depth() when " + n + " are left", n, x.depth());
        }
        x.giveBack();
        Check.due("11: depth() after a refused return", 0, x.depth());
    }

    /** 12: "The method of call i" */
    private static void methodOfEachCall() {
        for (int calls = 1; calls <= 20; calls++) {
            CallAdvice x = called(calls);
            for (int i = 0; i < calls; i++) {
                Check.due("12: methodAt(" + i + ") of " + calls, i * 7 % 16, x.methodAt(i));
            }
        }
        CallAdvice x = called(20);
        x.giveBack();
        x.call(15);
        Check.due("12: another call at the last place", 15, x.methodAt(19));
        x.unwind();
        x.call(9);
        Check.due("12: another call at the first place", 9, x.methodAt(0));
    }

    /** 12: "-1 if there is none" */
    private static void methodOfNoCall() {
        for (int calls = 0; calls <= 20; calls++) {
            CallAdvice x = called(calls);
            for (int i : new int[] {MIN, -2, -1, calls, calls + 1, 20, 21, MAX}) {
                Check.due("12: methodAt(" + i + ") of " + calls, -1, x.methodAt(i));
            }
        }
        CallAdvice x = new CallAdvice();
        Check.advise(x, 0, Check.DEEP, 0);
        x.call(4);
        x.would(0);
        x.wouldHold(0, 9);
        Check.due("12: a call that was only tried is none", -1, x.methodAt(1));
    }
}

/** Promises 8 to 12: call, giveBack, unwind, depth, methodAt. */
public final class CallsTest {
    public static void main(String[] args) {
        callRefuses();
        stackGrowsAndShrinks();
        beforeInOrder();
        afterInOppositeOrder();
        afterSeesTheStackAsItIs();
        callSeesTheNewCall();
        unwindGivesNothing();
        refusedCallsGiveNothing();
        Check.end();
    }

    private static void callRefuses() {
        CallAdvice x = new CallAdvice();
        int[] wrong = {-1, 16, Integer.MIN_VALUE, Integer.MAX_VALUE};
        for (int method : wrong) {
            Check.due("8: call(" + method + ")", -1, x.call(method));
        }
        Check.due("11: depth()", 0, x.depth());
        for (int n = 0; n < 20; n++) {
            Check.due("8: call " + n, 0, x.call(n % 16));
            Check.due("11: depth()", n + 1, x.depth());
        }
        Check.due("8: call 20", -2, x.call(0));
        Check.due("8: call 20 again", -2, x.call(15));
        for (int method : wrong) {
            Check.due("8: call(" + method + ") on a full stack", -1, x.call(method));
        }
        Check.due("11: depth() of a full stack", 20, x.depth());
        for (int n = 0; n < 20; n++) {
            Check.due("12: methodAt(" + n + ")", n % 16, x.methodAt(n));
        }
        Check.due("12: methodAt(20)", -1, x.methodAt(20));
        Check.due("9: giveBack()", 0, x.giveBack());
        Check.due("8: call after a return", 0, x.call(9));
        Check.due("12: methodAt(19)", 9, x.methodAt(19));
    }

    private static void stackGrowsAndShrinks() {
        CallAdvice x = new CallAdvice();
        Check.due("9: giveBack() of none", -1, x.giveBack());
        Check.callAll(x, 3, 15, 0);
        Check.due("12: methodAt(0)", 3, x.methodAt(0));
        Check.due("12: methodAt(1)", 15, x.methodAt(1));
        Check.due("12: methodAt(2)", 0, x.methodAt(2));
        for (int i : new int[] {-1, 3, 19, 20, Integer.MIN_VALUE, Integer.MAX_VALUE}) {
            Check.due("12: methodAt(" + i + ")", -1, x.methodAt(i));
        }
        Check.due("9: giveBack()", 0, x.giveBack());
        Check.due("11: depth()", 2, x.depth());
        Check.due("12: methodAt(2) after the return", -1, x.methodAt(2));
        Check.due("12: methodAt(1) after the return", 15, x.methodAt(1));
        Check.due("9: giveBack()", 0, x.giveBack());
        Check.due("9: giveBack()", 0, x.giveBack());
        Check.due("9: giveBack() of none", -1, x.giveBack());
        Check.due("11: depth()", 0, x.depth());
    }

    private static void beforeInOrder() {
        CallAdvice x = new CallAdvice();
        x.define(1, 0, 1, 0);
        Check.advise(x, 0, Check.DEEP, 0);
        Check.advise(x, 1, Check.DEEP, 0);
        Check.advise(x, 0, Check.NAME, 1);
        Check.advise(x, 0, Check.NAME, 0);
        Check.advise(x, 0, Check.DEEP, 0);
        Check.due("8: call(1)", 3, x.call(1));
        list("8", x, 4, 2, 0);
        Check.due("8: call(0)", 3, x.call(0));
        list("8", x, 4, 3, 0, 4, 2, 0);
        Check.due("14: given()", 6, x.given());
    }

    private static void afterInOppositeOrder() {
        CallAdvice x = new CallAdvice();
        x.define(1, 0, 1, 0);
        Check.advise(x, 1, Check.DEEP, 0);
        Check.advise(x, 0, Check.NAME, 9);
        Check.advise(x, 1, Check.NAME, 1);
        Check.advise(x, 1, Check.NAME, 0);
        Check.advise(x, 1, Check.DEEP, 0);
        Check.callAll(x, 0, 1);
        Check.due("8: nothing is given before", 0, x.given());
        Check.due("9: giveBack() of method 1", 3, x.giveBack());
        list("9", x, 0, 2, 4);
        Check.due("9: giveBack() of method 0", 3, x.giveBack());
        list("9", x, 0, 3, 4, 0, 2, 4);
        Check.due("9: giveBack() of none", -1, x.giveBack());
        Check.due("14: given()", 6, x.given());
    }

    private static void afterSeesTheStackAsItIs() {
        CallAdvice x = new CallAdvice();
        x.define(1, 1, 1, 0);
        Check.advise(x, 1, Check.DEEP, 1);
        Check.advise(x, 1, Check.BY, 1);
        Check.advise(x, 1, Check.NAME, 0, Check.TIMES, 2);
        Check.callAll(x, 1, 0, 0);
        Check.due("9: the return of call 2", 2, x.giveBack());
        list("9", x, 0, 2);
        Check.due("9: the return of call 1", 2, x.giveBack());
        list("9", x, 0, 1, 0, 2);
        Check.due("9: the return of call 0", 0, x.giveBack());
    }

    private static void callSeesTheNewCall() {
        CallAdvice x = new CallAdvice();
        x.define(1, 1, 1, 0);
        Check.advise(x, 0, Check.DEEP, 1);
        Check.advise(x, 0, Check.BY, 1);
        Check.advise(x, 0, Check.NAME, 1);
        Check.due("8: call 0", 1, x.call(1));
        list("8", x, 2);
        Check.due("8: call 1", 2, x.call(0));
        list("8", x, 1, 0, 2);
        Check.due("8: call 2", 1, x.call(0));
        list("8", x, 0, 1, 0, 2);
    }

    private static void unwindGivesNothing() {
        CallAdvice x = new CallAdvice();
        Check.advise(x, 0, Check.DEEP, 0);
        Check.advise(x, 1, Check.DEEP, 0);
        Check.callAll(x, 1, 2, 3);
        Check.due("10: unwind()", 3, x.unwind());
        Check.due("10: given()", 3, x.given());
        Check.due("10: count(1)", 0, x.count(1));
        Check.due("10: last(0)", 0, x.last(0));
        Check.due("10: depth()", 0, x.depth());
        Check.due("10: methodAt(0)", -1, x.methodAt(0));
        Check.due("10: unwind() of none", 0, x.unwind());
        Check.due("10: giveBack() after unwind", -1, x.giveBack());
        for (int n = 0; n < 20; n++) {
            x.call(0);
        }
        Check.due("10: unwind() of a full stack", 20, x.unwind());
        Check.due("10: the pieces stay", 1, x.call(5));
        Check.due("10: the return after unwind", 1, x.giveBack());
    }

    private static void refusedCallsGiveNothing() {
        CallAdvice x = new CallAdvice();
        Check.advise(x, 0, Check.DEEP, 0);
        Check.advise(x, 1, Check.DEEP, 0);
        x.giveBack();
        x.call(16);
        Check.due("8: given() after refusals", 0, x.given());
        for (int n = 0; n < 20; n++) {
            x.call(0);
        }
        x.call(1);
        Check.due("8: given() after a call too much", 20, x.given());
        Check.due("8: count(0) after a call too much", 20, x.count(0));
        Check.due("12: methodAt(19) after a call too much", 0, x.methodAt(19));
    }

    /** The list from its last number back. */
    private static void list(String promise, CallAdvice x, int... want) {
        for (int k = 0; k < want.length; k++) {
            Check.due(promise + ": last(" + k + ")", want[k], x.last(k));
        }
        Check.due(promise + ": last(" + want.length + ")", -1, x.last(want.length));
    }
}

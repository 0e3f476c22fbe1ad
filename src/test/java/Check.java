/** Counts and prints the answers that are not as due; a test ends with exit code 1 if there was one. */
final class Check {
    static final int NAME = 0;
    static final int CLASS = 1;
    static final int KIN = 2;
    static final int MARK = 3;
    static final int BY = 4;
    static final int DEEP = 5;
    static final int FLOW = 6;
    static final int BELOW = 7;
    static final int SINCE = 8;
    static final int TIMES = 9;
    static final int NOT = 10;
    static final int AND = 11;
    static final int OR = 12;
    static final int ONLY = 13;

    private static final int MOST_PRINTED = 50;

    private static int wrong = 0;

    private Check() {
    }

    static void due(String what, long want, long got) {
        if (got == want) {
            return;
        }
        wrong++;
        if (wrong <= MOST_PRINTED) {
            System.out.println(what + " answered " + got + ", due is " + want);
        }
    }

    static void that(String what, boolean right) {
        due(what, 1, right ? 1 : 0);
    }

    static boolean anyWrong() {
        return wrong > 0;
    }

    /** Makes a piece of advice from tokens, given as kind, argument, kind, argument, ... */
    static int advise(CallAdvice x, int time, int... tokens) {
        for (int t = 0; t < tokens.length; t += 2) {
            that("token(" + tokens[t] + ", " + tokens[t + 1] + ") is taken", x.token(tokens[t], tokens[t + 1]) > 0);
        }
        return x.advise(time);
    }

    static void callAll(CallAdvice x, int... methods) {
        for (int method : methods) {
            that("call(" + method + ") is taken", x.call(method) >= 0);
        }
    }

    /** At which calls a piece holds, as a text with a digit for each call from number 0 on. */
    static void holdsAt(String what, CallAdvice x, int piece, String want) {
        due(what + ", depth", want.length(), x.depth());
        for (int i = 0; i < want.length(); i++) {
            due(what + " at call " + i, want.charAt(i) - '0', x.holds(piece, i));
        }
    }

    static void end() {
        System.out.println(wrong == 0 ? "all answers are as due" : wrong + " answers are not as due");
        if (wrong != 0) {
            System.exit(1);
        }
    }
}

/** Promises 1 to 3: a new object, derive, define. */
public final class DefinitionsTest {
    public static void main(String[] args) {
        newObject();
        newMethodsAndClasses();
        deriveAnswersTheParentBefore();
        deriveRefuses();
        defineSets();
        defineRefuses();
        refusalsChangeNothing();
        piecesFollowLaterDefinitions();
        Check.end();
    }

    private static void newObject() {
        CallAdvice x = new CallAdvice();
        Check.due("1: depth()", 0, x.depth());
        Check.due("1: methodAt(0)", -1, x.methodAt(0));
        Check.due("1: given()", 0, x.given());
        Check.due("1: last(0)", -1, x.last(0));
        Check.due("1: count(0)", -1, x.count(0));
        Check.due("1: holds(0, 0)", -1, x.holds(0, 0));
        Check.due("1: wouldHold(0, 0)", -1, x.wouldHold(0, 0));
        Check.due("1: would(0)", -1, x.would(0));
        Check.due("1: giveBack()", -1, x.giveBack());
        Check.due("1: unwind()", 0, x.unwind());
        Check.due("1: drop()", -1, x.drop());
        Check.due("1: advise(0)", -2, x.advise(0));
        Check.due("1: token(10, 0)", -3, x.token(Check.NOT, 0));
        Check.due("1: clear()", 0, x.clear());
    }

    private static void newMethodsAndClasses() {
        CallAdvice x = new CallAdvice();
        Check.advise(x, 0, Check.NAME, 0);
        Check.advise(x, 0, Check.CLASS, 0);
        Check.advise(x, 0, Check.MARK, 0, Check.MARK, 1, Check.MARK, 2, Check.MARK, 3,
                Check.OR, 0, Check.OR, 0, Check.OR, 0);
        Check.due("1: all names are 0", 65535, x.would(0));
        Check.due("1: all classes are 0", 65535, x.would(1));
        Check.due("1: there are no marks", 0, x.would(2));
        for (int kind = 0; kind < 8; kind++) {
            Check.due("1: parent of class " + kind, -1, x.derive(kind, -1));
        }
    }

    private static void deriveAnswersTheParentBefore() {
        CallAdvice x = new CallAdvice();
        Check.due("2: derive(7, 6)", -1, x.derive(7, 6));
        Check.due("2: derive(7, 0)", 6, x.derive(7, 0));
        Check.due("2: derive(7, -1)", 0, x.derive(7, -1));
        Check.due("2: derive(7, 3)", -1, x.derive(7, 3));
        Check.due("2: derive(6, 5)", -1, x.derive(6, 5));
        Check.due("2: derive(7, 3) again", 3, x.derive(7, 3));
        Check.due("2: derive(0, -1)", -1, x.derive(0, -1));
        Check.due("2: derive(1, 0)", -1, x.derive(1, 0));
    }

    private static void deriveRefuses() {
        CallAdvice x = new CallAdvice();
        int[][] wrong = {{-1, -1}, {8, 0}, {8, -1}, {0, 0}, {3, 3}, {3, 4}, {3, -2}, {7, 7},
            {Integer.MIN_VALUE, -1}, {Integer.MAX_VALUE, 0}, {3, Integer.MIN_VALUE}, {3, Integer.MAX_VALUE},
            {Integer.MIN_VALUE, Integer.MAX_VALUE}};
        for (int[] w : wrong) {
            Check.due("2: derive(" + w[0] + ", " + w[1] + ")", -1, x.derive(w[0], w[1]));
        }
        x.call(0);
        for (int[] w : wrong) {
            Check.due("2: derive(" + w[0] + ", " + w[1] + ") in a call", -1, x.derive(w[0], w[1]));
        }
        Check.due("2: derive(3, 2) in a call", -2, x.derive(3, 2));
        Check.due("2: derive(3, -1) in a call", -2, x.derive(3, -1));
        Check.due("2: derive(0, -1) in a call", -2, x.derive(0, -1));
        x.giveBack();
        Check.due("2: derive(3, 1) after the call", -1, x.derive(3, 1));
        Check.due("2: derive(3, -1) after the call", 1, x.derive(3, -1));
    }

    private static void defineSets() {
        CallAdvice x = new CallAdvice();
        Check.advise(x, 0, Check.NAME, 9);
        Check.advise(x, 0, Check.CLASS, 7);
        Check.advise(x, 0, Check.MARK, 0);
        Check.advise(x, 0, Check.MARK, 3);
        Check.due("3: define(15, 7, 9, 15)", 1, x.define(15, 7, 9, 15));
        Check.due("3: define(0, 7, 0, 8)", 1, x.define(0, 7, 0, 8));
        Check.due("3: define(4, 6, 9, 1)", 1, x.define(4, 6, 9, 1));
        Check.due("3: name 9", 1 << 15 | 1 << 4, x.would(0));
        Check.due("3: class 7", 1 << 15 | 1, x.would(1));
        Check.due("3: mark 0", 1 << 15 | 1 << 4, x.would(2));
        Check.due("3: mark 3", 1 << 15 | 1, x.would(3));
        Check.due("3: define(15, 0, 0, 0)", 1, x.define(15, 0, 0, 0));
        Check.due("3: name 9 again", 1 << 4, x.would(0));
        Check.due("3: class 7 again", 1, x.would(1));
        Check.due("3: mark 0 again", 1 << 4, x.would(2));
        Check.due("3: mark 3 again", 1, x.would(3));
    }

    private static void defineRefuses() {
        CallAdvice x = new CallAdvice();
        for (int round = 0; round < 2; round++) {
            for (int m : new int[] {-1, 16, Integer.MIN_VALUE, Integer.MAX_VALUE}) {
                Check.due("3: define(" + m + ", 0, 0, 0)", -1, x.define(m, 0, 0, 0));
                Check.due("3: define(" + m + ", 8, 10, 16)", -1, x.define(m, 8, 10, 16));
            }
            int[][] wrong = {{-1, 0, 0}, {8, 0, 0}, {0, -1, 0}, {0, 10, 0}, {0, 0, -1}, {0, 0, 16},
                {Integer.MIN_VALUE, 0, 0}, {0, Integer.MIN_VALUE, 0}, {0, 0, Integer.MIN_VALUE},
                {Integer.MAX_VALUE, 0, 0}, {0, Integer.MAX_VALUE, 0}, {0, 0, Integer.MAX_VALUE}};
            for (int[] w : wrong) {
                Check.due("3: define(2, " + w[0] + ", " + w[1] + ", " + w[2] + ") in round " + round,
                        -3, x.define(2, w[0], w[1], w[2]));
            }
            Check.due("3: define(2, 1, 1, 1) in round " + round, round == 0 ? 1 : -2, x.define(2, 1, 1, 1));
            x.call(2);
        }
        x.unwind();
        Check.due("3: define(2, 1, 1, 1) after unwind", 1, x.define(2, 1, 1, 1));
    }

    private static void refusalsChangeNothing() {
        CallAdvice x = new CallAdvice();
        x.derive(2, 1);
        x.define(5, 2, 4, 6);
        Check.advise(x, 0, Check.NAME, 4, Check.CLASS, 2, Check.AND, 0, Check.KIN, 1, Check.AND, 0,
                Check.MARK, 1, Check.AND, 0, Check.MARK, 2, Check.AND, 0,
                Check.MARK, 0, Check.NOT, 0, Check.AND, 0, Check.KIN, 0, Check.NOT, 0, Check.AND, 0);
        x.define(5, 8, 3, 1);
        x.define(5, 3, 10, 1);
        x.define(5, 3, 3, 16);
        x.derive(2, 2);
        x.derive(2, -2);
        Check.due("refused: would(0)", 1 << 5, x.would(0));
        x.call(0);
        x.define(5, 0, 0, 0);
        x.derive(2, 0);
        Check.due("refused in a call: would(0)", 1 << 5, x.would(0));
        x.unwind();
        Check.due("refused in a call, later: would(0)", 1 << 5, x.would(0));
        Check.due("refused: parent of class 2", 1, x.derive(2, 1));
    }

    private static void piecesFollowLaterDefinitions() {
        CallAdvice x = new CallAdvice();
        Check.advise(x, 0, Check.KIN, 1);
        Check.due("2: nothing is under class 1", 0, x.would(0));
        x.define(3, 4, 0, 0);
        x.derive(4, 2);
        Check.due("2: class 4 is not yet under class 1", 0, x.would(0));
        x.derive(2, 1);
        Check.due("2: class 4 is under class 1", 1 << 3, x.would(0));
        x.derive(4, -1);
        Check.due("2: class 4 is no more under class 1", 0, x.would(0));
    }
}

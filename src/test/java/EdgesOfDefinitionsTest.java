/** Promises 1 to 3: a test for each sentence that names a boundary, its words above the test. */
public final class EdgesOfDefinitionsTest {
    private static final int MIN = Integer.MIN_VALUE;
    private static final int MAX = Integer.MAX_VALUE;

    public static void main(String[] args) {
        emptyStack();
        emptyDraft();
        emptyList();
        noAdvice();
        objectsAreApart();
        noneIsMinusOne();
        kindOfDerive();
        parentOfDerive();
        deriveInACall();
        parentBefore();
        defineSets();
        methodOfDefine();
        kindOfDefine();
        nameOfDefine();
        marksOfDefine();
        defineInACall();
        defineAnswersOne();
        Check.end();
    }

    /** 1: "an empty stack" */
    private static void emptyStack() {
        CallAdvice x = new CallAdvice();
        Check.due("1: depth()", 0, x.depth());
        for (int i = -1; i <= 20; i++) {
            Check.due("1: methodAt(" + i + ")", -1, x.methodAt(i));
        }
        Check.due("1: giveBack()", -1, x.giveBack());
        Check.due("1: unwind()", 0, x.unwind());
        for (int n = 0; n < 20; n++) {
            Check.due("1: there is room for call " + n, 0, x.call(0));
        }
    }

    /** 1: "[an empty] draft" */
    private static void emptyDraft() {
        for (int kind = Check.FLOW; kind <= Check.ONLY; kind++) {
            Check.due("1: token(" + kind + ", 1)", -3, new CallAdvice().token(kind, 1));
        }
        Check.due("1: advise(0)", -2, new CallAdvice().advise(0));
        Check.due("1: clear()", 0, new CallAdvice().clear());
        CallAdvice x = new CallAdvice();
        Check.due("1: token 1", 1, x.token(Check.NAME, 0));
        for (int n = 2; n <= 16; n++) {
            Check.due("1: token " + n, 1, x.token(Check.NOT, 0));
        }
    }

    /** 1: "[an empty] list" */
    private static void emptyList() {
        CallAdvice x = new CallAdvice();
        Check.due("1: given()", 0, x.given());
        for (int k = -1; k <= 64; k++) {
            Check.due("1: last(" + k + ")", -1, x.last(k));
        }
    }

    /** 1: "no advice" */
    private static void noAdvice() {
        CallAdvice x = new CallAdvice();
        for (int piece = -1; piece <= 6; piece++) {
            Check.due("1: count(" + piece + ")", -1, x.count(piece));
            Check.due("1: holds(" + piece + ", 0)", -1, x.holds(piece, 0));
            Check.due("1: wouldHold(" + piece + ", 0)", -1, x.wouldHold(piece, 0));
            Check.due("1: would(" + piece + ")", -1, x.would(piece));
        }
        Check.due("1: drop()", -1, x.drop());
        Check.due("1: call(0)", 0, x.call(0));
        Check.due("1: giveBack()", 0, x.giveBack());
        x.token(Check.NAME, 0);
        Check.due("1: the first piece", 0, x.advise(0));
    }

    /** 1: a new object is new whatever was done to others. */
    private static void objectsAreApart() {
        CallAdvice other = new CallAdvice();
        other.derive(1, 0);
        other.define(0, 7, 9, 15);
        Check.advise(other, 0, Check.DEEP, 0);
        other.token(Check.NAME, 0);
        other.call(3);
        CallAdvice x = new CallAdvice();
        Check.due("1: depth() beside another object", 0, x.depth());
        Check.due("1: given() beside another object", 0, x.given());
        Check.due("1: count(0) beside another object", -1, x.count(0));
        Check.due("1: clear() beside another object", 0, x.clear());
        Check.due("1: parent beside another object", -1, x.derive(1, -1));
        Check.advise(x, 0, Check.NAME, 0);
        Check.due("1: names beside another object", 65535, x.would(0));
        x.unwind();
        Check.due("1: the other object stays", 1, other.depth());
    }

    /** 2: "Gives a class a parent (-1 for none)." */
    private static void noneIsMinusOne() {
        for (int kind = 1; kind <= 7; kind++) {
            CallAdvice x = new CallAdvice();
            x.define(4, kind, 0, 0);
            Check.advise(x, 0, Check.KIN, 0);
            Check.due("2: class " + kind + " without a parent", 65535 - (1 << 4), x.would(0));
            x.derive(kind, 0);
            Check.due("2: class " + kind + " with the parent 0", 65535, x.would(0));
            Check.due("2: derive(" + kind + ", -1)", 0, x.derive(kind, -1));
            Check.due("2: class " + kind + " with none again", 65535 - (1 << 4), x.would(0));
        }
        Check.due("2: derive(0, -1)", -1, new CallAdvice().derive(0, -1));
    }

    /** 2: "kind is not 0 to 7 [..]: -1" */
    private static void kindOfDerive() {
        for (int kind : new int[] {MIN, -2, -1, 8, 9, MAX}) {
            for (int parent : new int[] {-1, 0, 6, 7}) {
                CallAdvice x = new CallAdvice();
                Check.due("2: derive(" + kind + ", " + parent + ")", -1, x.derive(kind, parent));
                for (int k = 0; k <= 7; k++) {
                    Check.due("2: no class got a parent", -1, x.derive(k, -1));
                }
            }
        }
        CallAdvice x = new CallAdvice();
        x.derive(7, 0);
        Check.due("2: kind 7", 0, x.derive(7, -1));
        x.derive(1, 0);
        Check.due("2: kind 1, the least that can have a parent", 0, x.derive(1, -1));
    }

    /** 2: "or parent is not from -1 to kind - 1: -1" */
    private static void parentOfDerive() {
        for (int kind = 0; kind <= 7; kind++) {
            CallAdvice x = new CallAdvice();
            int least = kind == 0 ? -1 : 0;
            x.derive(kind, least);
            for (int parent : new int[] {MIN, -3, -2, kind, kind + 1, 8, MAX}) {
                Check.due("2: derive(" + kind + ", " + parent + ")", -1, x.derive(kind, parent));
            }
            Check.due("2: parent kind - 1 of " + kind + " after refusals", least, x.derive(kind, kind - 1));
            Check.due("2: parent -1 of " + kind, kind - 1, x.derive(kind, -1));
        }
    }

    /** 2: "the stack is not empty: -2" */
    private static void deriveInACall() {
        CallAdvice x = new CallAdvice();
        x.derive(5, 4);
        for (int calls = 1; calls <= 20; calls++) {
            x.call(0);
            Check.due("2: derive(5, 3) in " + calls + " calls", -2, x.derive(5, 3));
        }
        x.unwind();
        Check.due("2: derive(5, 3) after unwind", 4, x.derive(5, 3));
        x.call(0);
        x.giveBack();
        Check.due("2: derive(5, 2) after a return", 3, x.derive(5, 2));
        x.call(16);
        Check.due("2: derive(5, 1) after a refused call", 2, x.derive(5, 1));
    }

    /** 2: "Else answers the parent before." */
    private static void parentBefore() {
        CallAdvice x = new CallAdvice();
        for (int kind = 0; kind <= 7; kind++) {
            Check.due("2: none before, class " + kind, -1, x.derive(kind, kind - 1));
        }
        for (int kind = 0; kind <= 7; kind++) {
            Check.due("2: the same again, class " + kind, kind - 1, x.derive(kind, kind - 1));
            Check.due("2: to none, class " + kind, kind - 1, x.derive(kind, -1));
            Check.due("2: from none, class " + kind, -1, x.derive(kind, -1));
        }
    }

    /** 3: "Sets a method's class, name and marks." */
    private static void defineSets() {
        for (int m = 0; m <= 15; m++) {
            CallAdvice x = new CallAdvice();
            x.define(m, 7, 9, 15);
            Check.advise(x, 0, Check.CLASS, 7);
            Check.advise(x, 0, Check.NAME, 9);
            for (int g = 0; g <= 3; g++) {
                Check.advise(x, 0, Check.MARK, g);
            }
            for (int piece = 0; piece < 6; piece++) {
                Check.due("3: method " + m + " alone, piece " + piece, 1 << m, x.would(piece));
            }
            x.define(m, 6, 8, 0);
            for (int piece = 0; piece < 6; piece++) {
                Check.due("3: method " + m + " set anew, piece " + piece, 0, x.would(piece));
            }
        }
    }

    /** 3: "method is not 0 to 15: -1" */
    private static void methodOfDefine() {
        CallAdvice x = new CallAdvice();
        Check.advise(x, 0, Check.NAME, 5);
        for (int m : new int[] {MIN, -2, -1, 16, 17, MAX}) {
            Check.due("3: define(" + m + ", 0, 5, 0)", -1, x.define(m, 0, 5, 0));
        }
        Check.due("3: no method was set", 0, x.would(0));
        Check.due("3: define(0, ..)", 1, x.define(0, 0, 5, 0));
        Check.due("3: define(15, ..)", 1, x.define(15, 0, 5, 0));
        Check.due("3: the first and the last are set", 1 << 15 | 1, x.would(0));
    }

    /** 3: "kind is not 0 to 7 [..]: -3" */
    private static void kindOfDefine() {
        CallAdvice x = new CallAdvice();
        Check.advise(x, 0, Check.NAME, 5);
        for (int kind : new int[] {MIN, -1, 8, MAX}) {
            Check.due("3: define(2, " + kind + ", 5, 15)", -3, x.define(2, kind, 5, 15));
        }
        Check.due("3: nothing was set", 0, x.would(0));
        Check.due("3: kind 0", 1, x.define(2, 0, 5, 15));
        Check.due("3: kind 7", 1, x.define(2, 7, 5, 15));
    }

    /** 3: "name not 0 to 9 [..]: -3" */
    private static void nameOfDefine() {
        CallAdvice x = new CallAdvice();
        Check.advise(x, 0, Check.CLASS, 5);
        for (int name : new int[] {MIN, -1, 10, MAX}) {
            Check.due("3: define(2, 5, " + name + ", 15)", -3, x.define(2, 5, name, 15));
        }
        Check.due("3: nothing was set", 0, x.would(0));
        Check.due("3: name 0", 1, x.define(2, 5, 0, 15));
        Check.due("3: name 9", 1, x.define(2, 5, 9, 15));
    }

    /** 3: "or marks not 0 to 15: -3" */
    private static void marksOfDefine() {
        CallAdvice x = new CallAdvice();
        Check.advise(x, 0, Check.CLASS, 5);
        for (int marks : new int[] {MIN, -1, 16, 17, 31, MAX}) {
            Check.due("3: define(2, 5, 9, " + marks + ")", -3, x.define(2, 5, 9, marks));
        }
        Check.due("3: nothing was set", 0, x.would(0));
        Check.due("3: marks 0", 1, x.define(2, 5, 9, 0));
        Check.due("3: marks 15", 1, x.define(2, 5, 9, 15));
    }

    /** 3: "the stack is not empty: -2" */
    private static void defineInACall() {
        CallAdvice x = new CallAdvice();
        Check.advise(x, 0, Check.NAME, 5);
        for (int calls = 1; calls <= 20; calls++) {
            x.call(0);
            Check.due("3: define(2, 5, 5, 5) in " + calls + " calls", -2, x.define(2, 5, 5, 5));
        }
        x.unwind();
        Check.due("3: nothing was set", 0, x.would(0));
        Check.due("3: define(2, 5, 5, 5) after unwind", 1, x.define(2, 5, 5, 5));
        x.call(0);
        x.giveBack();
        Check.due("3: define(3, 5, 5, 5) after a return", 1, x.define(3, 5, 5, 5));
        Check.due("3: both are set", 1 << 2 | 1 << 3, x.would(0));
    }

    /** 3: "Else answers 1." */
    private static void defineAnswersOne() {
        CallAdvice x = new CallAdvice();
        Check.due("3: all the least", 1, x.define(0, 0, 0, 0));
        Check.due("3: all the greatest", 1, x.define(15, 7, 9, 15));
        Check.due("3: the same again", 1, x.define(15, 7, 9, 15));
    }
}

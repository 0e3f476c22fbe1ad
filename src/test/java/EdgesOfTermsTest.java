/** The parts 'What it is' and 'Terms': a test for each sentence that names a boundary, its words above the test. */
public final class EdgesOfTermsTest {
    public static void main(String[] args) {
        atMost512Calls();
        eightClasses();
        parentIsLesser();
        underItself();
        underThroughParents();
        sixteenMethods();
        names();
        marks();
        atFirst();
        atMostTwentyCalls();
        outermostIsNumberZero();
        before();
        atMostSixFormulas();
        atMostSixteenTokens();
        whatIsTakenOff();
        nameToken();
        classToken();
        kinToken();
        markToken();
        byToken();
        deepToken();
        flowToken();
        belowToken();
        sinceToken();
        timesToken();
        notToken();
        andToken();
        orToken();
        onlyToken();
        atMostSixPieces();
        givenBefore();
        givenAfter();
        onlyTheLast64();
        formulaOfItsTime();
        changedWhileEmpty();
        Check.end();
    }

    /** Method m has class m modulo 8, name m modulo 10 and the marks m; no class has a parent. */
    private static CallAdvice different() {
        CallAdvice x = new CallAdvice();
        for (int m = 0; m < 16; m++) {
            x.define(m, m % 8, m % 10, m);
        }
        return x;
    }

    /** Where a formula holds: at call, by wouldHold ahead of the call, and by holds when all calls are made. */
    private static void formula(String what, CallAdvice x, int[] methods, String want, int... tokens) {
        int piece = Check.advise(x, 0, tokens);
        for (int i = 0; i < methods.length; i++) {
            int due = want.charAt(i) - '0';
            Check.due(what + ", wouldHold ahead of call " + i, due, x.wouldHold(piece, methods[i]));
            Check.due(what + ", given at call " + i, due, x.call(methods[i]));
        }
        Check.holdsAt(what, x, piece, want);
    }

    private static int[] stack(int... methods) {
        return methods;
    }

    /** Twenty calls of method 0, but of a method at a place. */
    private static int[] full(int place, int method) {
        int[] methods = new int[20];
        methods[place] = method;
        return methods;
    }

    private static String at(int place) {
        return "0".repeat(place) + "1" + "0".repeat(19 - place);
    }

    private static String from(int place) {
        return "0".repeat(place) + "1".repeat(20 - place);
    }

    /** "An object is used for at most 512 calls after it has been made": the 512th is still promised. */
    private static void atMost512Calls() {
        CallAdvice[] x = new CallAdvice[6];
        for (int n = 0; n < x.length; n++) {
            x[n] = new CallAdvice();
            for (int piece = 0; piece < 6; piece++) {
                Check.advise(x[n], piece % 2, Check.DEEP, 0);
            }
            for (int calls = 13; calls <= 511; calls++) {
                Check.due("call number " + calls, 3, calls % 2 == 1 ? x[n].call(15) : x[n].giveBack());
            }
        }
        Check.due("call number 512, given()", 3 * 499, x[0].given());
        Check.due("call number 512, count(5)", 249, x[1].count(5));
        Check.due("call number 512, last(63)", 1, x[2].last(63));
        Check.due("call number 512, giveBack()", 3, x[3].giveBack());
        Check.due("call number 512, call(0)", 3, x[4].call(0));
        Check.due("call number 512, would(5)", 65535, x[5].would(5));
    }

    /** "There are eight CLASSES, 0 to 7" */
    private static void eightClasses() {
        for (int kind = 0; kind <= 7; kind++) {
            CallAdvice x = new CallAdvice();
            Check.due("class " + kind + " in derive", -1, x.derive(kind, -1));
            Check.due("class " + kind + " in define", 1, x.define(3, kind, 0, 0));
            for (int token : new int[] {Check.CLASS, Check.KIN}) {
                Check.advise(x, 0, token, kind);
            }
            Check.due("class " + kind + " in CLASS", kind == 0 ? 65535 : 8, x.would(0));
            Check.due("class " + kind + " in KIN", kind == 0 ? 65535 : 8, x.would(1));
        }
        for (int kind : new int[] {-1, 8}) {
            CallAdvice x = new CallAdvice();
            Check.due("class " + kind + " in derive", -1, x.derive(kind, -1));
            Check.due("class " + kind + " in define", -3, x.define(3, kind, 0, 0));
            for (int token : new int[] {Check.CLASS, Check.KIN, Check.BY}) {
                Check.due("class " + kind + " in token " + token, -1, x.token(token, kind));
            }
        }
    }

    /** "each has a PARENT, a class with a lesser number, or none" */
    private static void parentIsLesser() {
        CallAdvice x = new CallAdvice();
        for (int kind = 0; kind <= 7; kind++) {
            int parent = -1;
            for (int next = kind - 1; next >= -1; next--) {
                Check.due("derive(" + kind + ", " + next + ")", parent, x.derive(kind, next));
                parent = next;
            }
            for (int next = kind; next <= 8; next++) {
                Check.due("derive(" + kind + ", " + next + ")", -1, x.derive(kind, next));
            }
        }
    }

    /** "A class is UNDER another one if it is that class" */
    private static void underItself() {
        for (int kind = 0; kind <= 7; kind++) {
            CallAdvice x = different();
            Check.advise(x, 0, Check.KIN, kind);
            Check.due("without parents only class " + kind + " is under it", 0x101 << kind, x.would(0));
        }
    }

    /** "or if its parent is under it" */
    private static void underThroughParents() {
        for (int kind = 0; kind <= 7; kind++) {
            CallAdvice x = different();
            for (int child = 1; child <= 7; child++) {
                x.derive(child, child - 1);
            }
            Check.advise(x, 0, Check.KIN, kind);
            int want = 0xFF & 0xFF << kind;
            Check.due("in a chain of eight, under class " + kind, want | want << 8, x.would(0));
            x.derive(4, -1);
            want = kind < 4 ? 0x0F & 0x0F << kind : want;
            Check.due("in a chain cut at 4, under class " + kind, want | want << 8, x.would(0));
            x.derive(4, 1);
            want = kind <= 1 ? 0xFF & 0xFF << kind : kind <= 3 ? 0x0F & 0x0F << kind : 0xFF & 0xFF << kind;
            Check.due("in a tree, under class " + kind, want | want << 8, x.would(0));
        }
    }

    /** "There are 16 METHODS, 0 to 15" */
    private static void sixteenMethods() {
        CallAdvice x = new CallAdvice();
        Check.advise(x, 0, Check.NAME, 1);
        for (int m : new int[] {-1, 16}) {
            Check.due("method " + m + " in define", -1, x.define(m, 0, 1, 0));
            Check.due("method " + m + " in call", -1, x.call(m));
            Check.due("method " + m + " in wouldHold", -2, x.wouldHold(0, m));
        }
        for (int m = 0; m <= 15; m++) {
            Check.due("method " + m + " in define", 1, x.define(m, 0, 1, 0));
            Check.due("method " + m + " in would", (2 << m) - 1, x.would(0));
            Check.due("method " + m + " in wouldHold", 1, x.wouldHold(0, m));
            Check.due("method " + m + " in call", 1, x.call(m));
            Check.due("method " + m + " in methodAt", m, x.methodAt(0));
            x.unwind();
        }
    }

    /** "a NAME from 0 to 9" */
    private static void names() {
        for (int name = 0; name <= 9; name++) {
            CallAdvice x = new CallAdvice();
            Check.due("name " + name + " in define", 1, x.define(15, 0, name, 0));
            Check.due("name " + name + " in NAME", 0, Check.advise(x, 0, Check.NAME, name));
            Check.due("name " + name + " in would", name == 0 ? 65535 : 1 << 15, x.would(0));
        }
        for (int name : new int[] {-1, 10}) {
            CallAdvice x = new CallAdvice();
            Check.due("name " + name + " in define", -3, x.define(15, 0, name, 0));
            Check.due("name " + name + " in NAME", -1, x.token(Check.NAME, name));
        }
    }

    /** "a set of MARKS, written as the number from 0 to 15 with the binary digit g for mark g" */
    private static void marks() {
        for (int set = 0; set <= 15; set++) {
            CallAdvice x = new CallAdvice();
            Check.due("marks " + set, 1, x.define(7, 0, 0, set));
            for (int g = 0; g <= 3; g++) {
                Check.advise(x, 0, Check.MARK, g);
                Check.due("marks " + set + ", mark " + g, (set >> g & 1) << 7, x.would(g));
            }
        }
        CallAdvice x = new CallAdvice();
        Check.due("marks -1", -3, x.define(7, 0, 0, -1));
        Check.due("marks 16", -3, x.define(7, 0, 0, 16));
    }

    /** "At first no class has a parent, and method m has class 0, name 0 and no marks." */
    private static void atFirst() {
        CallAdvice x = new CallAdvice();
        for (int kind = 0; kind <= 7; kind++) {
            Check.due("parent of class " + kind, -1, x.derive(kind, -1));
        }
        for (int kind = Check.NAME; kind <= Check.KIN; kind++) {
            for (int a = 0; a <= 7; a++) {
                Check.advise(x, 0, kind, a);
                Check.due("at first, token(" + kind + ", " + a + ")", a == 0 ? 65535 : 0, x.would(0));
                x.drop();
            }
        }
        for (int g = 0; g <= 3; g++) {
            Check.advise(x, 0, Check.MARK, g);
            Check.due("at first, mark " + g, 0, x.would(0));
            x.drop();
        }
    }

    /** "The STACK has at most 20 CALLS" */
    private static void atMostTwentyCalls() {
        CallAdvice x = new CallAdvice();
        for (int n = 1; n <= 20; n++) {
            Check.due("call number " + n, 0, x.call(n % 16));
            Check.due("depth", n, x.depth());
        }
        Check.due("call number 21", -2, x.call(5));
        Check.due("depth after it", 20, x.depth());
        Check.due("a return makes room", 0, x.giveBack());
        Check.due("call number 20 again", 0, x.call(5));
        Check.due("call number 21 again", -2, x.call(5));
    }

    /** "the outermost one number 0; each is the call of a method" */
    private static void outermostIsNumberZero() {
        CallAdvice x = new CallAdvice();
        for (int n = 0; n < 20; n++) {
            x.call((n + 3) % 16);
        }
        Check.due("the outermost call", 3, x.methodAt(0));
        Check.due("the last call", 22 % 16, x.methodAt(19));
    }

    /** "The call BEFORE call i is call i - 1, its caller." */
    private static void before() {
        formula("its caller, call 0", different(), full(0, 3), at(1), Check.BY, 3);
        formula("its caller, call 18", different(), full(18, 3), at(19), Check.BY, 3);
        formula("call 19 calls nobody", different(), full(19, 3), "0".repeat(20), Check.BY, 3);
    }

    /** "a draft, a stack of at most 6 formulas" */
    private static void atMostSixFormulas() {
        CallAdvice x = different();
        for (int n = 1; n <= 6; n++) {
            Check.due("formula " + n, n, x.token(Check.NAME, n));
        }
        Check.due("formula 7", -4, x.token(Check.NAME, 7));
        for (int n = 5; n >= 1; n--) {
            Check.due("two become one, " + n + " are left", n, x.token(Check.OR, 0));
        }
        Check.due("the six as a piece", 0, x.advise(0));
        Check.due("each of the six counts", 0x7E | 0x7E << 10 & 0xFFFF, x.would(0));
    }

    /** "by at most 16 tokens" */
    private static void atMostSixteenTokens() {
        for (int last = Check.FLOW; last <= Check.ONLY; last++) {
            CallAdvice x = different();
            x.token(Check.NAME, 1);
            x.token(Check.NAME, 1);
            for (int n = 3; n <= 15; n++) {
                x.token(Check.NOT, 0);
            }
            Check.that("token 16 is taken, " + last, x.token(last, 1) > 0);
            for (int kind = Check.NAME; kind <= Check.ONLY; kind++) {
                Check.due("token 17, " + kind, -2, x.token(kind, 1));
            }
        }
        CallAdvice x = different();
        x.token(Check.NAME, 1);
        for (int n = 2; n <= 16; n++) {
            x.token(Check.NOT, 0);
        }
        x.advise(0);
        Check.due("all 16 tokens count", 65535 ^ (1 << 1 | 1 << 11), x.would(0));
    }

    /** "with F and G what is taken off (G the top)" */
    private static void whatIsTakenOff() {
        formula("G is the top", different(), stack(2, 1), "11", Check.NAME, 1, Check.NAME, 2, Check.SINCE, 0);
        formula("F is below it", different(), stack(2, 1), "01", Check.NAME, 2, Check.NAME, 1, Check.SINCE, 0);
        formula("one alone takes the top", different(), stack(1, 2, 3), "100",
                Check.NAME, 1, Check.NAME, 2, Check.NOT, 0, Check.AND, 0);
        formula("the formulas below stay", different(), stack(4, 2, 1, 4), "0110",
                Check.NAME, 4, Check.NOT, 0, Check.NAME, 1, Check.NAME, 2, Check.SINCE, 0, Check.AND, 0);
    }

    /** "0 NAME a      the name of call i's method is a (0 to 9)" */
    private static void nameToken() {
        for (int a : new int[] {0, 9}) {
            Check.due("NAME " + a, 1, new CallAdvice().token(Check.NAME, a));
        }
        for (int a : new int[] {-1, 10}) {
            Check.due("NAME " + a, -1, new CallAdvice().token(Check.NAME, a));
        }
        formula("NAME 0", different(), stack(0, 1, 9, 10, 8), "10010", Check.NAME, 0);
        formula("NAME 9", different(), stack(0, 1, 9, 10, 8), "00100", Check.NAME, 9);
    }

    /** "1 CLASS a     its class is a (0 to 7)" */
    private static void classToken() {
        for (int a : new int[] {0, 7}) {
            Check.due("CLASS " + a, 1, new CallAdvice().token(Check.CLASS, a));
        }
        for (int a : new int[] {-1, 8}) {
            Check.due("CLASS " + a, -1, new CallAdvice().token(Check.CLASS, a));
        }
        CallAdvice x = different();
        x.derive(7, 6);
        formula("CLASS 6 is not its child", x, stack(6, 7, 14, 15, 0), "10100", Check.CLASS, 6);
        formula("CLASS 7", different(), stack(7, 15, 0, 6), "1100", Check.CLASS, 7);
        formula("CLASS 0", different(), stack(8, 15, 0, 1), "1010", Check.CLASS, 0);
    }

    /** "2 KIN a       its class is under class a" */
    private static void kinToken() {
        for (int a : new int[] {0, 7}) {
            Check.due("KIN " + a, 1, new CallAdvice().token(Check.KIN, a));
        }
        for (int a : new int[] {-1, 8}) {
            Check.due("KIN " + a, -1, new CallAdvice().token(Check.KIN, a));
        }
        CallAdvice x = different();
        x.derive(7, 6);
        x.derive(6, 0);
        formula("KIN 0", x, stack(0, 1, 6, 7, 5), "10110", Check.KIN, 0);
        x = different();
        x.derive(7, 6);
        x.derive(6, 0);
        formula("KIN 7", x, stack(0, 1, 6, 7, 15), "00011", Check.KIN, 7);
    }

    /** "3 MARK a      its method has mark a (0 to 3)" */
    private static void markToken() {
        for (int a : new int[] {0, 3}) {
            Check.due("MARK " + a, 1, new CallAdvice().token(Check.MARK, a));
        }
        for (int a : new int[] {-1, 4}) {
            Check.due("MARK " + a, -1, new CallAdvice().token(Check.MARK, a));
        }
        formula("MARK 0", different(), stack(1, 14, 15, 0), "1010", Check.MARK, 0);
        formula("MARK 3", different(), stack(8, 7, 15, 0), "1010", Check.MARK, 3);
    }

    /** "4 BY a        there is a call before call i, and the class of that call's method is under class a" */
    private static void byToken() {
        for (int a : new int[] {0, 7}) {
            Check.due("BY " + a, 1, new CallAdvice().token(Check.BY, a));
        }
        for (int a : new int[] {-1, 8}) {
            Check.due("BY " + a, -1, new CallAdvice().token(Check.BY, a));
        }
        formula("BY 0: before call 0 there is none", different(), new int[20], from(1), Check.BY, 0);
        CallAdvice x = different();
        x.derive(7, 6);
        formula("BY 6: the caller's class, through its parent", x, stack(7, 0, 6, 6, 5), "01011", Check.BY, 6);
        formula("BY 7 and not its parent", different(), stack(7, 6, 7, 0, 0), "01010", Check.BY, 7);
    }

    /** "5 DEEP a      i is at least a (0 to 20)" */
    private static void deepToken() {
        for (int a = 0; a <= 20; a++) {
            Check.due("DEEP " + a, 1, new CallAdvice().token(Check.DEEP, a));
            formula("DEEP " + a, new CallAdvice(), new int[20], from(a), Check.DEEP, a);
        }
        for (int a : new int[] {-1, 21}) {
            Check.due("DEEP " + a, -1, new CallAdvice().token(Check.DEEP, a));
        }
    }

    /** "6 FLOW        F holds at call i or at some call with a lesser number" */
    private static void flowToken() {
        for (int place : new int[] {0, 1, 18, 19}) {
            formula("FLOW from " + place, different(), full(place, 1), from(place), Check.NAME, 1, Check.FLOW, 0);
        }
        formula("FLOW of nothing", different(), new int[20], from(20), Check.NAME, 1, Check.FLOW, 0);
    }

    /** "7 BELOW       F holds at some call with a lesser number than i" */
    private static void belowToken() {
        for (int place : new int[] {0, 1, 18, 19}) {
            formula("BELOW from " + place, different(), full(place, 1), from(place + 1),
                    Check.NAME, 1, Check.BELOW, 0);
        }
        formula("BELOW of nothing", different(), new int[20], from(20), Check.NAME, 1, Check.BELOW, 0);
        formula("BELOW of all", different(), new int[20], from(1), Check.NAME, 0, Check.BELOW, 0);
    }

    /**
     * "8 SINCE       there is a call j, j at most i, such that G holds at call j, and F holds at all calls with numbers
     * above j, up to i"
     */
    private static void sinceToken() {
        int[] since = {Check.NAME, 1, Check.NAME, 2, Check.SINCE, 0};
        formula("j is i, at call 0", different(), stack(2), "1", since);
        formula("j is i, above others", different(), stack(0, 0, 2), "001", since);
        formula("j is 0", different(), stack(2, 1, 1, 1), "1111", since);
        formula("F at call i too", different(), stack(2, 1, 0), "110", since);
        formula("F at the call next to j too", different(), stack(2, 0, 1), "100", since);
        formula("no call where G holds", different(), stack(1, 1, 1), "000", since);
        formula("some j, not each", different(), stack(2, 0, 2, 1), "1011", since);
        for (int place : new int[] {0, 18, 19}) {
            formula("full stack, from " + place, different(), full(place, 2), from(place),
                    Check.NAME, 0, Check.NAME, 2, Check.SINCE, 0);
        }
    }

    /** "9 TIMES a     F holds at at least a (1 to 5) of the calls from number 0 to number i" */
    private static void timesToken() {
        for (int a = 1; a <= 5; a++) {
            formula("TIMES " + a + " of all", different(), new int[20], from(a - 1), Check.NAME, 0, Check.TIMES, a);
            formula("TIMES " + a + " of all but one", different(), full(0, 1), from(a), Check.NAME, 0, Check.TIMES, a);
        }
        formula("TIMES 5 of four", different(), stack(1, 1, 0, 1, 1, 0), "000000", Check.NAME, 1, Check.TIMES, 5);
        formula("TIMES 5 at call 19", different(),
                stack(1, 0, 0, 1, 0, 0, 1, 0, 0, 0, 0, 0, 0, 0, 0, 0, 0, 0, 1, 1), at(19), Check.NAME, 1, Check.TIMES, 5);
        for (int a : new int[] {0, 6, -1}) {
            CallAdvice x = new CallAdvice();
            x.token(Check.NAME, 0);
            Check.due("TIMES " + a, -1, x.token(Check.TIMES, a));
        }
    }

    /** "10 NOT        F does not hold at call i" */
    private static void notToken() {
        for (int place : new int[] {0, 19}) {
            formula("NOT, " + place, different(), full(place, 1), at(place), Check.NAME, 0, Check.NOT, 0);
        }
        formula("NOT of nothing", different(), new int[20], from(0), Check.NAME, 1, Check.NOT, 0);
        formula("NOT NOT", different(), full(19, 1), at(19), Check.NAME, 1, Check.NOT, 0, Check.NOT, 0);
    }

    /** "11 AND        F and G hold at call i" */
    private static void andToken() {
        formula("AND", different(), stack(0, 1, 2, 3), "0001", Check.MARK, 0, Check.MARK, 1, Check.AND, 0);
        formula("AND at one call, not at two", different(), stack(1, 2), "00",
                Check.MARK, 0, Check.MARK, 1, Check.AND, 0);
    }

    /** "12 OR         F or G holds at call i (or both)" */
    private static void orToken() {
        formula("OR", different(), stack(0, 1, 2, 3), "0111", Check.MARK, 0, Check.MARK, 1, Check.OR, 0);
    }

    /** "13 ONLY       F holds at call i and at no call with a lesser number" */
    private static void onlyToken() {
        for (int place : new int[] {0, 1, 18, 19}) {
            formula("ONLY at " + place, different(), full(place, 1), at(place), Check.NAME, 1, Check.ONLY, 0);
        }
        formula("ONLY of all", different(), new int[20], at(0), Check.NAME, 0, Check.ONLY, 0);
        formula("ONLY of nothing", different(), new int[20], from(20), Check.NAME, 1, Check.ONLY, 0);
        formula("a greater number does not matter", different(), stack(0, 1, 0, 1), "0100",
                Check.NAME, 1, Check.ONLY, 0);
    }

    /** "there are at most 6 pieces, numbered 0, 1, ..; each has a formula and a time, 0 (before) or 1 (after)" */
    private static void atMostSixPieces() {
        CallAdvice x = different();
        for (int piece = 0; piece <= 5; piece++) {
            Check.due("piece " + piece, piece, Check.advise(x, piece % 2, Check.NAME, piece + 4));
        }
        Check.due("a seventh piece", -3, Check.advise(x, 0, Check.NAME, 0));
        for (int piece = 0; piece <= 5; piece++) {
            int own = 1 << piece + 4;
            Check.due("formula of piece " + piece, (own | own << 10) & 0xFFFF, x.would(piece));
            Check.due("before, piece " + piece, 1 - piece % 2, x.call(piece + 4));
            Check.due("after, piece " + piece, piece % 2, x.giveBack());
            Check.due("it is given, piece " + piece, piece, x.last(0));
        }
    }

    /** "When a call is made, the pieces with time 0 whose formulas hold at the new call are GIVEN, in the order" */
    private static void givenBefore() {
        CallAdvice x = new CallAdvice();
        Check.due("without pieces", 0, x.call(0));
        x.unwind();
        for (int piece = 0; piece < 6; piece++) {
            Check.advise(x, 0, Check.DEEP, piece % 3);
        }
        Check.due("at call 0", 2, x.call(0));
        Check.due("at call 1", 4, x.call(0));
        Check.due("at call 2, all six", 6, x.call(0));
        int[] want = {5, 4, 3, 2, 1, 0, 4, 3, 1, 0, 3, 0};
        for (int k = 0; k < want.length; k++) {
            Check.due("last(" + k + ")", want[k], x.last(k));
        }
        Check.due("no piece at a return", 0, x.giveBack());
    }

    /**
     * "when a call returns, the pieces with time 1 whose formulas hold at it (with the stack as it still is then) are
     * given, in the opposite order"
     */
    private static void givenAfter() {
        CallAdvice x = new CallAdvice();
        x.call(0);
        Check.due("without pieces", 0, x.giveBack());
        for (int piece = 0; piece < 6; piece++) {
            Check.advise(x, 1, Check.DEEP, piece % 3);
        }
        Check.due("no piece at a call", 0, x.call(0));
        Check.callAll(x, 0, 0);
        Check.due("at call 2, all six", 6, x.giveBack());
        Check.due("at call 1", 4, x.giveBack());
        Check.due("at call 0", 2, x.giveBack());
        int[] want = {0, 3, 0, 1, 3, 4, 0, 1, 2, 3, 4, 5};
        for (int k = 0; k < want.length; k++) {
            Check.due("last(" + k + ")", want[k], x.last(k));
        }
        Check.due("no return is left", -1, x.giveBack());
        x = different();
        Check.advise(x, 1, Check.NAME, 3);
        Check.advise(x, 1, Check.BY, 4);
        Check.callAll(x, 4, 3);
        Check.due("the call that returns is still on the stack", 2, x.giveBack());
        Check.due("the caller alone", 0, x.giveBack());
    }

    /** "THE LIST has the numbers of the pieces given, one after the other; only the last 64 are kept." */
    private static void onlyTheLast64() {
        for (int given = 0; given <= 130; given++) {
            CallAdvice x = different();
            for (int piece = 0; piece < 6; piece++) {
                Check.advise(x, 0, Check.NAME, piece);
            }
            for (int n = 0; n < given; n++) {
                x.call(n * n % 6);
                x.giveBack();
            }
            int kept = given < 64 ? given : 64;
            for (int k = 0; k < kept; k++) {
                int n = given - 1 - k;
                Check.due("last(" + k + ") of " + given, n * n % 6, x.last(k));
            }
            Check.due("last(" + kept + ") of " + given, -1, x.last(kept));
            Check.due("given()", given, x.given());
        }
    }

    /** "A piece's formula is that of the time when the piece was made" */
    private static void formulaOfItsTime() {
        CallAdvice x = different();
        Check.advise(x, 0, Check.NAME, 1);
        x.token(Check.NAME, 2);
        x.token(Check.NOT, 0);
        Check.due("another draft", 1 << 1 | 1 << 11, x.would(0));
        x.clear();
        Check.due("an empty draft", 1 << 1 | 1 << 11, x.would(0));
        Check.advise(x, 0, Check.NAME, 3);
        Check.due("another piece", 1 << 1 | 1 << 11, x.would(0));
        x.drop();
        Check.due("another piece dropped", 1 << 1 | 1 << 11, x.would(0));
    }

    /** "classes and methods can only be changed while the stack is empty" */
    private static void changedWhileEmpty() {
        CallAdvice x = new CallAdvice();
        Check.due("derive at first", -1, x.derive(1, 0));
        Check.due("define at first", 1, x.define(1, 1, 1, 1));
        for (int calls = 1; calls <= 20; calls++) {
            x.call(0);
            Check.due("derive in " + calls + " calls", -2, x.derive(1, -1));
            Check.due("define in " + calls + " calls", -2, x.define(1, 0, 0, 0));
        }
        for (int calls = 19; calls >= 1; calls--) {
            x.giveBack();
            Check.due("derive when " + calls + " are left", -2, x.derive(1, -1));
            Check.due("define when " + calls + " are left", -2, x.define(1, 0, 0, 0));
        }
        x.giveBack();
        Check.due("derive after the last return", 0, x.derive(1, -1));
        Check.due("define after the last return", 1, x.define(1, 0, 0, 0));
        x.call(0);
        x.unwind();
        Check.due("derive after unwind", -1, x.derive(1, 0));
        Check.due("define after unwind", 1, x.define(1, 0, 0, 0));
    }
}

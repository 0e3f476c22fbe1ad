/** The terms: where each kind of formula holds. */
public final class FormulaTest {
    /** Methods 0 to 7 have name m, class m and the marks m; 8 to 15 have name 8, class 0 and the marks m. */
    private static CallAdvice prepared() {
        CallAdvice x = new CallAdvice();
        for (int m = 0; m < 16; m++) {
            x.define(m, m < 8 ? m : 0, m < 8 ? m : 8, m);
        }
        return x;
    }

    /** A piece's holding at all calls of a stack, checked also by wouldHold as the stack grows. */
    private static void formula(String what, int[] methods, String want, int... tokens) {
        CallAdvice x = prepared();
        x.derive(3, 1);
        x.derive(5, 3);
        x.derive(4, 2);
        int piece = Check.advise(x, 0, tokens);
        for (int i = 0; i < methods.length; i++) {
            Check.due(what + ", would hold at call " + i, want.charAt(i) - '0', x.wouldHold(piece, methods[i]));
            Check.due(what + ", given at call " + i, want.charAt(i) - '0', x.call(methods[i]));
        }
        Check.holdsAt(what, x, piece, want);
    }

    private static int[] stack(int... methods) {
        return methods;
    }

    public static void main(String[] args) {
        traits();
        kin();
        by();
        deep();
        past();
        since();
        times();
        joined();
        nested();
        fullStack();
        Check.end();
    }

    private static void traits() {
        formula("NAME 8", stack(8, 0, 15, 7, 9), "10101", Check.NAME, 8);
        formula("NAME 0", stack(8, 0, 15, 7, 0), "01001", Check.NAME, 0);
        formula("CLASS 0", stack(8, 0, 15, 7, 1), "11100", Check.CLASS, 0);
        formula("CLASS 7", stack(8, 0, 15, 7, 1), "00010", Check.CLASS, 7);
        formula("CLASS is not KIN", stack(1, 3, 5), "100", Check.CLASS, 1);
        formula("MARK 0", stack(0, 1, 2, 3, 8, 14, 15), "0101001", Check.MARK, 0);
        formula("MARK 1", stack(0, 1, 2, 3, 8, 14, 15), "0011011", Check.MARK, 1);
        formula("MARK 2", stack(4, 1, 2, 3, 8, 14, 15), "1000011", Check.MARK, 2);
        formula("MARK 3", stack(4, 1, 2, 7, 8, 14, 15), "0000111", Check.MARK, 3);
    }

    private static void kin() {
        formula("KIN 1", stack(0, 1, 2, 3, 4, 5, 6, 7), "01010100", Check.KIN, 1);
        formula("KIN 2", stack(0, 1, 2, 3, 4, 5, 6, 7), "00101000", Check.KIN, 2);
        formula("KIN 3", stack(0, 1, 2, 3, 4, 5, 6, 7), "00010100", Check.KIN, 3);
        formula("KIN 5", stack(0, 1, 2, 3, 4, 5, 6, 7), "00000100", Check.KIN, 5);
        formula("KIN 0", stack(0, 1, 2, 3, 4, 5, 6, 7), "10000000", Check.KIN, 0);
        CallAdvice x = prepared();
        for (int kind = 1; kind < 8; kind++) {
            x.derive(kind, kind - 1);
        }
        Check.advise(x, 0, Check.KIN, 0);
        Check.advise(x, 0, Check.KIN, 4);
        Check.due("KIN 0 in a chain of eight", 65535, x.would(0));
        Check.due("KIN 4 in a chain of eight", 0xF0, x.would(1));
        x.derive(5, -1);
        Check.due("KIN 0 in a broken chain", 0xFF1F, x.would(0));
        Check.due("KIN 4 in a broken chain", 0x10, x.would(1));
    }

    private static void by() {
        formula("BY 1", stack(1, 0, 3, 2, 5, 5), "010101", Check.BY, 1);
        formula("BY 0 has no caller at call 0", stack(0, 0, 8, 1, 2), "01110", Check.BY, 0);
        formula("BY looks at the caller alone", stack(1, 0, 0), "010", Check.BY, 1);
        formula("NOT BY at call 0", stack(1, 0, 0), "101", Check.BY, 1, Check.NOT, 0);
    }

    private static void deep() {
        formula("DEEP 0", stack(0, 0, 0), "111", Check.DEEP, 0);
        formula("DEEP 2", stack(0, 0, 0, 0), "0011", Check.DEEP, 2);
        int[] full = new int[20];
        formula("DEEP 19", full, "00000000000000000001", Check.DEEP, 19);
        formula("DEEP 20", full, "00000000000000000000", Check.DEEP, 20);
    }

    private static void past() {
        formula("FLOW", stack(0, 1, 0, 1, 2), "01111", Check.NAME, 1, Check.FLOW, 0);
        formula("FLOW of nothing", stack(0, 1, 0, 1, 2), "00000", Check.NAME, 9, Check.FLOW, 0);
        formula("FLOW from call 0", stack(1, 0), "11", Check.NAME, 1, Check.FLOW, 0);
        formula("BELOW", stack(0, 1, 0, 1, 2), "00111", Check.NAME, 1, Check.BELOW, 0);
        formula("BELOW of nothing", stack(0, 1, 0), "000", Check.NAME, 9, Check.BELOW, 0);
        formula("BELOW of all", stack(0, 0, 0), "011", Check.DEEP, 0, Check.BELOW, 0);
        formula("BELOW of the last", stack(0, 0, 1), "000", Check.NAME, 1, Check.BELOW, 0);
        formula("ONLY", stack(0, 1, 0, 1, 2), "01000", Check.NAME, 1, Check.ONLY, 0);
        formula("ONLY of nothing", stack(0, 1, 0), "000", Check.NAME, 9, Check.ONLY, 0);
        formula("ONLY of all", stack(0, 0, 0), "100", Check.DEEP, 0, Check.ONLY, 0);
        formula("ONLY at the last", stack(0, 0, 1), "001", Check.NAME, 1, Check.ONLY, 0);
    }

    private static void since() {
        formula("SINCE", stack(1, 2, 1, 1, 0, 1, 2, 2, 0), "011100110",
                Check.NAME, 1, Check.NAME, 2, Check.SINCE, 0);
        formula("SINCE, F need not hold at j", stack(2, 0), "10", Check.NAME, 1, Check.NAME, 2, Check.SINCE, 0);
        formula("SINCE, F without G", stack(1, 1, 1), "000", Check.NAME, 1, Check.NAME, 2, Check.SINCE, 0);
        formula("SINCE, G is the top", stack(2, 1, 1), "111", Check.NAME, 1, Check.NAME, 2, Check.SINCE, 0);
        formula("SINCE, the other way", stack(2, 1, 1), "011", Check.NAME, 2, Check.NAME, 1, Check.SINCE, 0);
        formula("SINCE, a later G counts again", stack(2, 0, 2, 1), "1011",
                Check.NAME, 1, Check.NAME, 2, Check.SINCE, 0);
    }

    private static void times() {
        formula("TIMES 1", stack(0, 1, 0, 1, 0), "01111", Check.NAME, 1, Check.TIMES, 1);
        formula("TIMES 2", stack(1, 0, 1, 0, 1), "00111", Check.NAME, 1, Check.TIMES, 2);
        formula("TIMES 3", stack(1, 1, 1, 0, 1), "00111", Check.NAME, 1, Check.TIMES, 3);
        formula("TIMES 5", stack(1, 1, 1, 1, 0, 1, 0, 1), "00000111", Check.NAME, 1, Check.TIMES, 5);
        formula("TIMES 5 of four", stack(1, 1, 1, 1, 0), "00000", Check.NAME, 1, Check.TIMES, 5);
    }

    private static void joined() {
        formula("NOT", stack(0, 1, 0), "101", Check.NAME, 1, Check.NOT, 0);
        formula("AND", stack(0, 1, 3, 2), "0010", Check.MARK, 0, Check.MARK, 1, Check.AND, 0);
        formula("OR", stack(0, 1, 3, 2), "0111", Check.MARK, 0, Check.MARK, 1, Check.OR, 0);
    }

    private static void nested() {
        formula("BELOW of BELOW", stack(1, 0, 0, 0), "0011", Check.NAME, 1, Check.BELOW, 0, Check.BELOW, 0);
        formula("NOT of FLOW", stack(0, 1, 0), "100", Check.NAME, 1, Check.FLOW, 0, Check.NOT, 0);
        formula("FLOW of NOT", stack(1, 0, 1), "011", Check.NAME, 1, Check.NOT, 0, Check.FLOW, 0);
        formula("ONLY of TIMES 2", stack(1, 0, 1, 1), "0010", Check.NAME, 1, Check.TIMES, 2, Check.ONLY, 0);
        formula("TIMES 2 of TIMES 2", stack(1, 1, 0, 0), "0011", Check.NAME, 1, Check.TIMES, 2, Check.TIMES, 2);
        formula("FLOW of BY", stack(0, 1, 0, 0), "0011", Check.BY, 1, Check.FLOW, 0);
        formula("six formulas", stack(1, 2, 3, 4, 5, 6), "111111", Check.NAME, 1, Check.NAME, 2, Check.NAME, 3,
                Check.NAME, 4, Check.NAME, 5, Check.NAME, 6, Check.OR, 0, Check.OR, 0, Check.OR, 0, Check.OR, 0,
                Check.OR, 0);
        formula("F and G below another formula", stack(3, 2, 1, 0), "1110", Check.NAME, 3, Check.NAME, 1,
                Check.NAME, 2, Check.SINCE, 0, Check.OR, 0);
    }

    private static void fullStack() {
        int[] full = new int[20];
        full[18] = 1;
        formula("NOT on a full stack", full, "11111111111111111101", Check.NAME, 1, Check.NOT, 0);
        formula("FLOW on a full stack", full, "00000000000000000011", Check.NAME, 1, Check.FLOW, 0);
        formula("BELOW on a full stack", full, "00000000000000000001", Check.NAME, 1, Check.BELOW, 0);
        formula("SINCE on a full stack", full, "00000000000000000011",
                Check.NAME, 0, Check.NAME, 1, Check.SINCE, 0);
        formula("ONLY on a full stack", full, "00000000000000000010", Check.NAME, 1, Check.ONLY, 0);
        formula("TIMES on a full stack", full, "00001111111111111111", Check.NAME, 0, Check.TIMES, 5);
    }
}

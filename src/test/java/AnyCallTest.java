/** Rule 7 of LANGUAGE.md: no call throws, for any arguments in any state, also after the 512th call. */
public final class AnyCallTest {
    private static final int CALLS = 2000000;
    private static final int[] FAR = {Integer.MIN_VALUE, Integer.MIN_VALUE + 1, -65536, -64, -33, -32, -2, -1, 6, 16, 20,
        21, 31, 32, 33, 63, 64, 65, 96, 65536, Integer.MAX_VALUE - 1, Integer.MAX_VALUE};

    private static long seed = 1;

    public static void main(String[] args) {
        CallAdvice x = new CallAdvice();
        String last = "";
        try {
            for (int n = 0; n < CALLS; n++) {
                int which = draw(17);
                int a = argument();
                int b = argument();
                last = "call number " + n + ", which is " + which + " with " + a + ", " + b;
                any(x, which, a, b);
            }
        } catch (RuntimeException e) {
            Check.that(last + " ends without " + e, false);
        }
        Check.end();
    }

    private static int draw(int bound) {
        seed = seed * 6364136223846793005L + 1442695040888963407L;
        return (int) ((seed >>> 33) % bound);
    }

    private static int argument() {
        return draw(6) == 0 ? FAR[draw(FAR.length)] : draw(draw(2) == 0 ? 3 : 16);
    }

    private static int any(CallAdvice x, int which, int a, int b) {
        switch (which) {
            case 0: return x.derive(a, b);
            case 1: return x.define(a, b, argument(), argument());
            case 2: return x.token(a, b);
            case 3: return draw(10) == 0 ? x.clear() : x.token(a, b);
            case 4: return x.advise(a);
            case 5: return draw(5) == 0 ? x.drop() : x.token(a, b);
            case 6: return x.call(a);
            case 7: return x.giveBack();
            case 8: return draw(10) == 0 ? x.unwind() : x.call(a);
            case 9: return x.depth();
            case 10: return x.methodAt(a);
            case 11: return x.holds(a, b);
            case 12: return x.given();
            case 13: return x.count(a);
            case 14: return x.last(a);
            case 15: return x.wouldHold(a, b);
            default: return x.would(a);
        }
    }
}

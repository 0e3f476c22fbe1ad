import java.util.ArrayList;
import java.util.List;

/**
 * All that can be seen of an object, to tell what a call leaves as it was. Parents, methods and the draft show only
 * in calls that change them, and an object is good for 512 calls: so each look is taken at an object of its own, made
 * by the same calls.
 */
final class State {
    /** The calls that bring a new object into a state. */
    interface Made {
        void by(CallAdvice x);
    }

    /** One call, and what it answers. */
    interface Call {
        int on(CallAdvice x);
    }

    private interface Look {
        List<Integer> at(CallAdvice x);
    }

    private static final Look[] LOOKS = {
        State::plainQuestions, State::formulas, State::tries, State::roomOnTheDraft, State::draftedFormula,
        State::definitions, State::laterCalls};

    private static final int[] MOST_ARGUMENT = {9, 7, 7, 3, 7, 20};

    private State() {
    }

    /** The call gives that answer in that state, and leaves all as it was. */
    static void stays(String what, int answer, Made made, Call call) {
        for (int look = 0; look < LOOKS.length; look++) {
            CallAdvice without = new CallAdvice();
            made.by(without);
            CallAdvice with = new CallAdvice();
            made.by(with);
            Check.due(what, answer, call.on(with));
            List<Integer> want = LOOKS[look].at(without);
            List<Integer> got = LOOKS[look].at(with);
            Check.that(what + " leaves all as it was, look " + look + ": " + want + " became " + got,
                    want.equals(got));
        }
    }

    /** Whether some look tells the two states apart. */
    static boolean differs(Made one, Made other) {
        boolean differs = false;
        for (Look look : LOOKS) {
            CallAdvice x = new CallAdvice();
            one.by(x);
            CallAdvice y = new CallAdvice();
            other.by(y);
            differs |= !look.at(x).equals(look.at(y));
        }
        return differs;
    }

    private static List<Integer> plainQuestions(CallAdvice x) {
        List<Integer> seen = new ArrayList<>();
        seen.add(x.depth());
        seen.add(x.given());
        for (int i = -1; i <= 20; i++) {
            seen.add(x.methodAt(i));
        }
        for (int piece = -1; piece <= 6; piece++) {
            seen.add(x.count(piece));
            seen.add(x.would(piece));
        }
        for (int k = -1; k <= 64; k++) {
            seen.add(x.last(k));
        }
        return seen;
    }

    private static List<Integer> formulas(CallAdvice x) {
        List<Integer> seen = new ArrayList<>();
        for (int piece = 0; piece < 6; piece++) {
            for (int i = 0; i <= 20; i++) {
                seen.add(x.holds(piece, i));
            }
        }
        return seen;
    }

    private static List<Integer> tries(CallAdvice x) {
        List<Integer> seen = new ArrayList<>();
        for (int piece = 0; piece < 6; piece++) {
            for (int method = 0; method < 16; method++) {
                seen.add(x.wouldHold(piece, method));
            }
        }
        return seen;
    }

    private static List<Integer> roomOnTheDraft(CallAdvice x) {
        List<Integer> seen = new ArrayList<>();
        for (int n = 0; n < 7; n++) {
            seen.add(x.token(Check.DEEP, 0));
        }
        for (int n = 0; n < 17; n++) {
            seen.add(x.token(Check.NOT, 0));
        }
        seen.add(x.clear());
        return seen;
    }

    /** What stands on the draft, joined to one formula and made a piece. */
    private static List<Integer> draftedFormula(CallAdvice x) {
        List<Integer> seen = new ArrayList<>();
        seen.add(x.unwind());
        seen.add(x.drop());
        for (int n = 0; n < 5; n++) {
            seen.add(x.token(Check.AND, 0));
        }
        int piece = x.advise(0);
        seen.add(piece);
        for (int n = 0; n < 20; n++) {
            seen.add(x.would(piece));
            seen.add(x.call(n * 7 % 16));
        }
        return seen;
    }

    private static List<Integer> definitions(CallAdvice x) {
        List<Integer> seen = new ArrayList<>();
        x.unwind();
        x.clear();
        for (int n = 0; n < 6; n++) {
            x.drop();
        }
        for (int kind = Check.NAME; kind <= Check.MARK; kind++) {
            for (int a = 0; a <= MOST_ARGUMENT[kind]; a++) {
                x.token(kind, a);
                x.advise(0);
                seen.add(x.would(0));
                x.drop();
            }
        }
        for (int kind = 0; kind < 8; kind++) {
            seen.add(x.derive(kind, -1));
        }
        return seen;
    }

    /** Which pieces are given at which time, at further calls and at returns. */
    private static List<Integer> laterCalls(CallAdvice x) {
        List<Integer> seen = new ArrayList<>();
        for (int n = 0; n < 22; n++) {
            seen.add(x.giveBack());
            seen.add(x.given());
            seen.add(x.last(0));
            seen.add(x.last(1));
        }
        for (int n = 0; n < 20; n++) {
            seen.add(x.call(n));
            seen.add(x.last(0));
            seen.add(x.last(1));
            seen.add(x.giveBack());
            seen.add(x.last(0));
            seen.add(x.last(1));
        }
        for (int piece = 0; piece < 6; piece++) {
            seen.add(x.count(piece));
        }
        return seen;
    }
}

/** All promises: long mixed runs of calls, each answer held against that of the model. */
public final class ModelTest {
    private static final int RUNS = 3000;
    private static final int MOST_CALLS = 512;

    private final CallAdvice program = new CallAdvice();
    private final Model model = new Model();
    private final StringBuilder told = new StringBuilder();
    private final int run;
    private int calls = 0;
    private long seed;

    private ModelTest(int run) {
        this.run = run;
        this.seed = run * 7919L + 1;
    }

    public static void main(String[] args) {
        for (int run = 0; run < RUNS && !Check.anyWrong(); run++) {
            ModelTest test = new ModelTest(run);
            test.go();
            if (Check.anyWrong()) {
                System.out.println("run " + run + ":" + test.told);
            }
        }
        Check.end();
    }

    private void go() {
        while (calls < MOST_CALLS && !Check.anyWrong()) {
            define();
            makePieces();
            useStack();
        }
    }

    /** The same numbers in every run of the test, so that a failure can be seen again. */
    private int draw(int bound) {
        seed = seed * 6364136223846793005L + 1442695040888963407L;
        return (int) ((seed >>> 33) % bound);
    }

    /** A number from least to most; now and then one outside. */
    private int about(int least, int most) {
        int odd = draw(60);
        if (odd == 0) {
            return least - 1;
        }
        if (odd == 1) {
            return most + 1;
        }
        if (odd == 2) {
            return draw(2) == 0 ? Integer.MIN_VALUE : Integer.MAX_VALUE;
        }
        return least + draw(most - least + 1);
    }

    private void define() {
        int n = draw(20);
        for (int k = 0; k < n; k++) {
            if (draw(3) == 0) {
                int kind = about(0, 7);
                derive(kind, kind > 0 && kind < 8 ? about(-1, kind - 1) : about(-1, 6));
            } else {
                // Few methods, names and classes, so that formulas meet them.
                define(draw(8) == 0 ? about(0, 15) : draw(5), about(0, 7), draw(3) == 0 ? about(0, 9) : draw(3),
                        about(0, 15));
            }
        }
    }

    private void makePieces() {
        int n = draw(8);
        for (int k = 0; k < n; k++) {
            makeFormula();
            advise(about(0, 1));
        }
        if (draw(4) == 0) {
            drop();
        }
        if (draw(10) == 0) {
            clear();
        }
    }

    private void makeFormula() {
        int tokens = 1 + draw(draw(6) == 0 ? 20 : 10);
        int formulas = 0;
        for (int t = 0; t < tokens; t++) {
            boolean join = formulas >= 2 && draw(2) == 0;
            formulas = token(join ? joining() : draw(14));
        }
        for (int t = 0; t < 5 && formulas > 1; t++) {
            formulas = token(joining());
        }
    }

    private int argument(int kind) {
        int[] most = {3, 7, 7, 3, 7, 8, 9, 9, 9, 5, 9, 9, 9, 9};
        if (kind < 0 || kind > 13) {
            return about(0, 9);
        }
        if (draw(30) == 0) {
            return about(0, 21);
        }
        return kind == Check.TIMES ? 1 + draw(5) : draw(most[kind] + 1);
    }

    private int joining() {
        int[] kinds = {Check.SINCE, Check.AND, Check.OR};
        return kinds[draw(3)];
    }

    private void useStack() {
        int n = draw(120);
        for (int k = 0; k < n; k++) {
            int what = draw(20);
            if (what < 8) {
                call(draw(4) == 0 ? about(0, 15) : draw(5));
            } else if (what < 12) {
                giveBack();
            } else if (what < 19) {
                ask();
            } else {
                changeInCall();
            }
        }
        unwind();
    }

    private void changeInCall() {
        switch (draw(8)) {
            case 0:
                derive(about(0, 7), about(-1, 3));
                return;
            case 1:
                define(about(0, 15), about(0, 7), about(0, 9), about(0, 15));
                return;
            case 2:
                token(about(0, 13));
                return;
            case 3:
                advise(about(0, 1));
                return;
            case 4:
                drop();
                return;
            case 5:
                clear();
                return;
            default:
                if (draw(4) == 0) {
                    unwind();
                }
        }
    }

    private void ask() {
        int piece = about(0, 5);
        int depth = model.depth();
        switch (draw(9)) {
            case 0:
                due("depth()", model.depth(), program.depth());
                return;
            case 1:
                int at = about(0, depth);
                due("methodAt(" + at + ")", model.methodAt(at), program.methodAt(at));
                return;
            case 2:
                due("given()", model.given(), program.given());
                return;
            case 3:
                due("count(" + piece + ")", model.count(piece), program.count(piece));
                return;
            case 4:
                int k = about(0, 64);
                due("last(" + k + ")", model.last(k), program.last(k));
                return;
            case 5:
                int m = about(0, 15);
                due("wouldHold(" + piece + ", " + m + ")", model.wouldHold(piece, m), program.wouldHold(piece, m));
                return;
            case 6:
                due("would(" + piece + ")", model.would(piece), program.would(piece));
                return;
            default:
                int i = about(0, depth);
                due("holds(" + piece + ", " + i + ")", model.holds(piece, i), program.holds(piece, i));
        }
    }

    private void derive(int kind, int parent) {
        due("derive(" + kind + ", " + parent + ")", model.derive(kind, parent), program.derive(kind, parent));
    }

    private void define(int method, int kind, int name, int marks) {
        due("define(" + method + ", " + kind + ", " + name + ", " + marks + ")",
                model.define(method, kind, name, marks), program.define(method, kind, name, marks));
    }

    private int token(int kind) {
        int a = argument(kind);
        int want = model.token(kind, a);
        due("token(" + kind + ", " + a + ")", want, program.token(kind, a));
        return want;
    }

    private void advise(int time) {
        due("advise(" + time + ")", model.advise(time), program.advise(time));
    }

    private void drop() {
        due("drop()", model.drop(), program.drop());
    }

    private void clear() {
        due("clear()", model.clear(), program.clear());
    }

    private void call(int method) {
        due("call(" + method + ")", model.call(method), program.call(method));
    }

    private void giveBack() {
        due("giveBack()", model.giveBack(), program.giveBack());
    }

    private void unwind() {
        due("unwind()", model.unwind(), program.unwind());
    }

    private void due(String call, int want, int got) {
        calls++;
        told.append(' ').append(call).append('=').append(got);
        if (calls <= MOST_CALLS) {
            Check.due("run " + run + ", call number " + calls + ", " + call, want, got);
        }
    }
}

import java.util.ArrayList;
import java.util.List;

/** Every run of a few calls out of those that differ in kind, from several beginnings, on the class and on the model, which must answer alike. */
final class SmallRunsTest {
    private static final List<int[]> CALLS = new ArrayList<>();
    private static final int BEGIN = 0;
    private static final int TOKEN = 1;
    private static final int EVAL = 2;
    private static final int VERDICT = 3;
    private static final int GUARD = 4;
    private static final int RESET = 5;
    private static int runs;

    public static void main(String[] args) {
        gatherCalls();
        runsFrom(4, "");
        runsFrom(3, "DEF 0 CONS NUM 5 REF 0", "DEF 1 ZIPADD CONS");
        runsFrom(3, "DEF 1 TAIL REF 1");
        runsFrom(3, "DEF 0 REF 1");
        // Two cells are left, then one, then none.
        runsFrom(3, "DEF 0 " + Check.repeat("TAIL", 12) + "REF 0");
        runsFrom(3, "DEF 0 " + Check.repeat("CONS NUM 3", 6) + "CONS NUM 4");
        runsFrom(3, "DEF 0 CONS NUM 3 REF 0", "DEF 1 " + Check.repeat("ZIPMUL", 11));
        Check.due("the number of runs", runs > 500000, true);
        Check.end();
    }

    private static void gatherCalls() {
        int[][] begins = {{-1, 0}, {0, 0}, {1, 0}, {2, 0}};
        int[][] tokens = {{0, 0}, {1, -6}, {2, 1}, {3, 1}, {4, 0}, {5, 0}, {6, 1}, {7, 0}, {8, 0}, {9, 0}, {10, 1}, {11, -1}, {11, 0}, {11, 1}, {11, 2}, {12, 0}};
        int[][] evals = {{0, 0}, {1, 1}, {0, 31}, {0, 32}};
        add(BEGIN, begins);
        add(TOKEN, tokens);
        add(EVAL, evals);
        add(VERDICT, new int[][] {{0, 0}});
        add(GUARD, new int[][] {{1, 1}});
        add(RESET, new int[][] {{0, 0}});
    }

    private static void add(int method, int[][] arguments) {
        for (int[] a : arguments) {
            CALLS.add(new int[] {method, a[0], a[1]});
        }
    }

    private static void runsFrom(int length, String... definitions) {
        int count = 1;
        for (int made = 1; made <= length && !Check.anyWrong(); made++) {
            count *= CALLS.size();
            for (int run = 0; run < count && !Check.anyWrong(); run++) {
                oneRun(run, made, definitions);
            }
        }
    }

    /** The digits of the run's number are its calls; the runs that are shorter have looked at all but the last one. */
    private static void oneRun(int run, int length, String... definitions) {
        ProductiveStreams s = new ProductiveStreams(2, 16);
        Model m = new Model(2, 16);
        for (String definition : definitions) {
            if (!definition.isEmpty()) {
                Check.enter(s, definition);
                m.enter(definition);
            }
        }
        runs++;
        int left = run;
        for (int k = 0; k < length; k++) {
            int[] call = CALLS.get(left % CALLS.size());
            left /= CALLS.size();
            int got = call(s, call);
            int want = call(m, call);
            if (got != want) {
                Check.due(tell(run, length, definitions), got, want);
            }
        }
        String got = Check.view(s);
        String want = m.view();
        if (!got.equals(want)) {
            Check.due("the object after " + tell(run, length, definitions), got, want);
        }
    }

    private static String tell(int run, int length, String... definitions) {
        StringBuilder b = new StringBuilder(String.join("; ", definitions));
        String[] methods = {"begin", "token", "eval", "verdict", "guard", "reset"};
        int left = run;
        for (int k = 0; k < length; k++) {
            int[] call = CALLS.get(left % CALLS.size());
            left /= CALLS.size();
            b.append(' ').append(methods[call[0]]).append('(').append(call[1]).append(", ").append(call[2]).append(')');
        }
        return b.toString();
    }

    private static int call(ProductiveStreams s, int[] call) {
        switch (call[0]) {
            case BEGIN: return s.begin(call[1]) ? 1 : 0;
            case TOKEN: return s.token(call[1], call[2]) ? 1 : 0;
            case EVAL: return s.eval(call[1], call[2]);
            case VERDICT: return s.verdict();
            case GUARD: return s.guard(call[1], call[2]);
            default: s.reset(); return 0;
        }
    }

    private static int call(Model m, int[] call) {
        switch (call[0]) {
            case BEGIN: return m.begin(call[1]) ? 1 : 0;
            case TOKEN: return m.token(call[1], call[2]) ? 1 : 0;
            case EVAL: return m.eval(call[1], call[2]);
            case VERDICT: return m.verdict();
            case GUARD: return m.guard(call[1], call[2]);
            default: m.reset(); return 0;
        }
    }
}

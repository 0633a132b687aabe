/** All promises at once: long runs of calls on the class and on the model, which must answer alike. */
final class ModelTest {
    private static final int RUNS = 3000;
    private static final int[] ODD = {Integer.MIN_VALUE, -2, -1, 8, 9, 31, 32, 33, 95, 96, 97, Integer.MAX_VALUE};

    private static long seed;
    private static StringBuilder calls;
    // Whether the run prefers CONS, without which hardly any system is accepted.
    private static boolean guarded;
    private static final int[] verdicts = new int[5];
    private static final int[] outcomes = new int[5];

    public static void main(String[] args) {
        for (int run = 0; run < RUNS && !Check.anyWrong(); run++) {
            // Fixed seeds: the same calls in every run of the test.
            seed = 0x9E3779B97F4A7C15L * (run + 1);
            oneRun(run);
        }
        if (!Check.anyWrong()) {
            for (int k = 0; k < 5; k++) {
                Check.due("verdict " + k + " met often", verdicts[k] > 200, true);
                Check.due("outcome " + k + " met often", outcomes[k] > 200, true);
            }
        }
        Check.end();
    }

    private static int below(int bound) {
        seed = seed * 6364136223846793005L + 1442695040888963407L;
        return (int) ((seed >>> 33) % bound);
    }

    private static void oneRun(int run) {
        int names = below(8) == 0 ? ODD[below(ODD.length)] : 1 + below(8);
        int cells = below(8) == 0 ? ODD[below(ODD.length)] : 16 + below(81);
        calls = new StringBuilder("run " + run + ": new(" + names + ", " + cells + ")");
        ProductiveStreams s = new ProductiveStreams(names, cells);
        Model m = new Model(names, cells);
        int bound = names < 1 ? 1 : names > 8 ? 8 : names;
        // Few names give cycles soon, a growing wish for leaves closes definitions soon.
        int inUse = 1 + below(bound);
        int leaves = 1 + below(6);
        guarded = below(2) == 0;
        int length = 20 + below(100);
        for (int k = 0; k < length && !Check.anyWrong(); k++) {
            oneCall(s, m, inUse, leaves);
            due("view", Check.view(s), m.view());
        }
        for (int x = 0; x < bound && !Check.anyWrong(); x++) {
            if (m.pending() > 0) {
                close(s, m, inUse);
            }
            define(s, m, x, inUse, leaves);
        }
        judge(s, m, bound);
        evaluateAll(s, m, bound);
    }

    private static void due(String what, Object got, Object want) {
        if (!got.equals(want)) {
            Check.report(calls + "\n" + what + "\n  is      " + got + "\n  due is  " + want);
        }
    }

    private static int any(int bound) {
        return below(12) == 0 ? ODD[below(ODD.length)] : below(bound);
    }

    private static void oneCall(ProductiveStreams s, Model m, int inUse, int leaves) {
        int choice = below(100);
        if (m.pending() == 0 && choice < 50) {
            begin(s, m, any(inUse + 1));
        } else if (choice < 75) {
            token(s, m, fitting(m, leaves), below(9) - 4, inUse);
        } else if (choice < 80) {
            token(s, m, any(14), any(9), inUse);
        } else if (choice < 84) {
            begin(s, m, any(9));
        } else if (choice < 96) {
            eval(s, m, any(inUse + 1), any(32));
        } else if (choice < 99) {
            judge(s, m, inUse);
        } else if (below(3) == 0) {
            calls.append(" reset");
            s.reset();
            m.reset();
        }
    }

    private static int fitting(Model m, int leaves) {
        boolean leaf = below(8) < leaves;
        if (m.slot(0) == 1) {
            return leaf ? 1 : 2 + below(4);
        }
        if (leaf) {
            return 11;
        }
        if (guarded) {
            return below(12) == 0 ? 7 : below(3) == 0 ? 8 + below(3) : 6;
        }
        return below(3) == 0 ? 6 + below(5) : 6 + below(2);
    }

    private static void begin(ProductiveStreams s, Model m, int name) {
        calls.append(" begin(" + name + ")");
        due("begin", s.begin(name), m.begin(name));
    }

    private static void token(ProductiveStreams s, Model m, int kind, int value, int inUse) {
        int v = kind == 11 && below(20) != 0 ? below(inUse) : value;
        calls.append(" token(" + kind + "," + v + ")");
        due("token", s.token(kind, v), m.token(kind, v));
    }

    private static void define(ProductiveStreams s, Model m, int name, int inUse, int leaves) {
        begin(s, m, name);
        if (guarded && below(8) != 0) {
            token(s, m, 6, 0, inUse);
        }
        for (int k = 0; k < 12 && m.pending() > 0; k++) {
            token(s, m, fitting(m, leaves), below(9) - 4, inUse);
        }
        close(s, m, inUse);
        due("view", Check.view(s), m.view());
    }

    private static void close(ProductiveStreams s, Model m, int inUse) {
        for (int k = 0; k < 96 && m.pending() > 0; k++) {
            token(s, m, m.slot(0) == 1 ? 1 : 11, below(9) - 4, inUse);
        }
    }

    private static void judge(ProductiveStreams s, Model m, int bound) {
        try {
            int verdict = m.verdict();
            verdicts[verdict]++;
            calls.append(" verdict");
            due("verdict", s.verdict(), verdict);
            for (int a = -1; a <= bound; a++) {
                for (int b = -1; b <= bound; b++) {
                    due("guard(" + a + ", " + b + ")", s.guard(a, b), m.guard(a, b));
                }
            }
        } catch (Model.TooLong e) {
            calls.append(" (too long to judge)");
        }
        due("view after judging", Check.view(s), m.view());
    }

    private static void eval(ProductiveStreams s, Model m, int name, int index) {
        try {
            int outcome = m.eval(name, index);
            outcomes[outcome]++;
            calls.append(" eval(" + name + "," + index + ")");
            due("eval", s.eval(name, index), outcome);
            due("view after eval", Check.view(s), m.view());
        } catch (Model.TooLong e) {
            calls.append(" (too long to evaluate)");
        }
    }

    private static void evaluateAll(ProductiveStreams s, Model m, int bound) {
        for (int x = 0; x < bound && !Check.anyWrong(); x++) {
            for (int j = 0; j < 32; j += 1 + below(7)) {
                eval(s, m, x, j);
            }
        }
        theory(s, bound);
    }

    /** What promise 10 says of ACCEPTED systems. */
    private static void theory(ProductiveStreams s, int bound) {
        if (s.verdict() != ProductiveStreams.ACCEPTED) {
            return;
        }
        boolean tail = false;
        for (int k = 0; k < s.used(); k++) {
            tail = tail || s.cellKind(k) == ProductiveStreams.TAIL;
        }
        for (int x = 0; x < bound; x++) {
            for (int j = 0; j < 32 && s.defined(x); j++) {
                int outcome = s.eval(x, j);
                due("BLACKHOLE in an accepted system", outcome == ProductiveStreams.BLACKHOLE, false);
                due("OK in an accepted system without TAIL", tail || outcome == ProductiveStreams.OK, true);
                due("fault without TAIL", tail || s.faultName() == -1 && s.faultIndex() == -1, true);
            }
        }
    }
}

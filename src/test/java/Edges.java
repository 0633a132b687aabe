import java.util.function.Predicate;
import java.util.function.Supplier;
import java.util.function.ToLongFunction;

/** What the tests of the boundary cases share: a test for each sentence, and the ways to see that nothing changed. */
final class Edges {
    static final int LEAST = Integer.MIN_VALUE;
    static final int MOST = Integer.MAX_VALUE;

    /** Ints that no name, cell, slot, kind or index may be, some of them such once their high bits are lost. */
    static final int[] FAR = {LEAST, LEAST + 1, LEAST + 7, -65536, -256, -97, -96, -33, -32, -17, -9, -8, -2, -1,
        97, 128, 256, 257, 65536, 65537, 1 << 30, MOST - 1, MOST};

    private Edges() {
    }

    /** The words are the document's: they tell which sentence is broken. */
    static void sentence(String words, Runnable test) {
        int before = Check.wrongSoFar();
        try {
            test.run();
        } catch (RuntimeException | StackOverflowError | OutOfMemoryError e) {
            Check.report("a call ended with " + e);
        }
        if (Check.wrongSoFar() != before) {
            System.out.println("BROKEN: " + words);
        }
    }

    /** All that can be read from an object without an evaluation. */
    static String judged(ProductiveStreams s) {
        StringBuilder b = new StringBuilder(Check.view(s));
        b.append(" verdict ").append(s.verdict()).append(" guards");
        for (int x = -1; x <= 8; x++) {
            for (int y = -1; y <= 8; y++) {
                int weight = s.guard(x, y);
                if (weight != ProductiveStreams.NONE) {
                    b.append(' ').append(x).append('>').append(y).append(':').append(weight);
                }
            }
        }
        return b.toString();
    }

    /** What every evaluation answers and leaves; the results of the object are others afterwards. */
    static String elements(ProductiveStreams s) {
        StringBuilder b = new StringBuilder("elements");
        for (int x = -1; x <= 8; x++) {
            for (int j = -1; j <= ProductiveStreams.LIMIT; j++) {
                b.append(' ').append(s.eval(x, j)).append('(').append(Check.result(s)).append(')');
            }
        }
        return b.toString();
    }

    /** Closes the open definition, if there is room for it. */
    static void complete(ProductiveStreams s) {
        boolean accepted = true;
        for (int k = 0; k < 200 && accepted && s.pending() > 0; k++) {
            boolean elem = s.slot(0) == ProductiveStreams.SORT_ELEM;
            accepted = elem ? s.token(ProductiveStreams.NUM, 3) : s.token(ProductiveStreams.REF, 0);
        }
    }

    /** The object must be as its twin, which did not get the call, at once and in all that follows. */
    static void dueTwins(String call, ProductiveStreams s, ProductiveStreams twin) {
        Check.due("the object after " + call, judged(s), judged(twin));
        complete(s);
        complete(twin);
        Check.due("the object after " + call + " and its definition's end", judged(s), judged(twin));
        Check.due("the elements after " + call, elements(s), elements(twin));
    }

    static void dueNoChange(String call, Supplier<ProductiveStreams> state, ToLongFunction<ProductiveStreams> made, long want) {
        ProductiveStreams s = state.get();
        Check.due(call, made.applyAsLong(s), want);
        dueTwins(call, s, state.get());
    }

    static void dueRefused(String call, Supplier<ProductiveStreams> state, Predicate<ProductiveStreams> made) {
        ProductiveStreams s = state.get();
        Check.due(call, made.test(s), false);
        dueTwins(call, s, state.get());
    }

    /** An object after the given words, and after an evaluation at (name, index) if the name is not negative. */
    static Supplier<ProductiveStreams> state(int names, int cells, int name, int index, String... definitions) {
        return () -> {
            ProductiveStreams s = Check.system(names, cells, definitions);
            if (name >= 0) {
                s.eval(name, index);
            }
            return s;
        };
    }

    static Supplier<ProductiveStreams> state(int names, int cells, String... definitions) {
        return state(names, cells, -1, -1, definitions);
    }

    /** Objects with the three kinds of result: after OK, after BLACKHOLE and after RANGE; 3 and more are not defined. */
    static ProductiveStreams[] withResults() {
        String[] definitions = {"DEF 0 CONS NUM 41 REF 0", "DEF 1 REF 1", "DEF 2 TAIL REF 2"};
        ProductiveStreams[] made = new ProductiveStreams[3];
        String[] want = {"value 41 fault -1,-1", "value 0 fault 1,7", "value 0 fault 2,32"};
        for (int k = 0; k < 3; k++) {
            made[k] = Check.system(5, 40, definitions);
            made[k].eval(k, 7);
            Check.due("the result of eval(" + k + ", 7)", Check.result(made[k]), want[k]);
        }
        return made;
    }

    /** The greatest number of cells an object takes; it must be empty before. */
    static int cellsTaken(ProductiveStreams s) {
        s.begin(0);
        for (int k = 0; k < 200 && s.token(ProductiveStreams.TAIL, 0); k++) {
            continue;
        }
        return s.used();
    }

    /** The names an object takes, as words; it must be empty before. */
    static String namesTaken(ProductiveStreams s) {
        StringBuilder b = new StringBuilder();
        for (int x = -20; x <= 20; x++) {
            if (s.begin(x)) {
                b.append(x).append(' ');
                s.token(ProductiveStreams.REF, 0);
            }
        }
        for (int x : FAR) {
            if (s.begin(x)) {
                b.append(x).append(' ');
                s.token(ProductiveStreams.REF, 0);
            }
        }
        return b.toString();
    }

    static String firstNames(int count) {
        StringBuilder b = new StringBuilder();
        for (int x = 0; x < count; x++) {
            b.append(x).append(' ');
        }
        return b.toString();
    }
}

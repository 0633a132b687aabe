import java.util.LinkedHashMap;
import java.util.Map;
import java.util.function.Function;
import java.util.function.IntUnaryOperator;
import java.util.function.Predicate;
import java.util.function.Supplier;
import java.util.function.ToLongFunction;

/** What the tests of the boundary cases share: a test for each sentence, and the ways to see that nothing changed. */
final class Edges {
    static final int LEAST = Integer.MIN_VALUE;
    static final int MOST = Integer.MAX_VALUE;

    /** Ints that no name, cell, slot, kind or index may be, some of them such once their high bits are lost. */
    static final int[] FAR = {LEAST, LEAST + 1, LEAST + 7, -65536, -256, -97, -96, -33, -32, -17, -9, -8, -2, -1,
        97, 128, 256, 257, 65536, 65537, 1 << 30, MOST - 1, MOST};

    /** What is due from the objects of withResults(). */
    static final String[] RESULTS = {"value 41 fault -1,-1", "value 0 fault 1,7", "value 0 fault 2,32"};

    /** One reading each: the other readings must not get the chance to hide what a call changed. */
    private static final Map<String, Function<ProductiveStreams, String>> PROBES = new LinkedHashMap<>();

    static {
        PROBES.put("used()", s -> "" + s.used());
        PROBES.put("cellKind", s -> answers(-1, 97, s::cellKind));
        PROBES.put("cellValue", s -> answers(-1, 97, s::cellValue));
        PROBES.put("pending()", s -> "" + s.pending());
        PROBES.put("slot", s -> answers(-1, 97, s::slot));
        PROBES.put("openName()", s -> "" + s.openName());
        PROBES.put("defined", s -> answers(-1, 9, x -> s.defined(x) ? 1 : 0));
        PROBES.put("verdict()", s -> "" + s.verdict());
        PROBES.put("guard", s -> answers(0, 99, k -> s.guard(k / 10 - 1, k % 10 - 1)));
        PROBES.put("value()", s -> "" + s.value());
        PROBES.put("faultName()", s -> "" + s.faultName());
        PROBES.put("faultIndex()", s -> "" + s.faultIndex());
        PROBES.put("begin", s -> answers(-1, 8, x -> s.begin(x) ? 1 : 0));
        PROBES.put("eval", Edges::elements);
        PROBES.put("all that follows", Edges::whatFollows);
    }

    private Edges() {
    }

    /** The words are the document's: they tell which sentence is broken. */
    static void sentence(String words, Runnable test) {
        int before = Check.wrongSoFar();
        try {
            test.run();
        } catch (RuntimeException | StackOverflowError | OutOfMemoryError e) {
            Check.report("a call ended with " + e);
        }
        if (Check.wrongSoFar() != before) {
            System.out.println("BROKEN: " + words);
        }
    }

    /** All that can be read from an object without an evaluation. */
    static String judged(ProductiveStreams s) {
        StringBuilder b = new StringBuilder(Check.view(s));
        b.append(" verdict ").append(s.verdict()).append(" guards");
        for (int x = -1; x <= 8; x++) {
            for (int y = -1; y <= 8; y++) {
                int weight = s.guard(x, y);
                if (weight != ProductiveStreams.NONE) {
                    b.append(' ').append(x).append('>').append(y).append(':').append(weight);
                }
            }
        }
        return b.toString();
    }

    /** What every evaluation answers and leaves; the results of the object are others afterwards. */
    static String elements(ProductiveStreams s) {
        StringBuilder b = new StringBuilder("elements");
        for (int x = -1; x <= 8; x++) {
            for (int j = -1; j <= ProductiveStreams.LIMIT; j++) {
                b.append(' ').append(s.eval(x, j)).append('(').append(Check.result(s)).append(')');
            }
        }
        return b.toString();
    }

    /** Closes the open definition, if there is room for it. */
    static void complete(ProductiveStreams s) {
        boolean accepted = true;
        for (int k = 0; k < 200 && accepted && s.pending() > 0; k++) {
            boolean elem = s.slot(0) == ProductiveStreams.SORT_ELEM;
            accepted = elem ? s.token(ProductiveStreams.NUM, 3) : s.token(ProductiveStreams.REF, 0);
        }
    }

    private static String answers(int least, int most, IntUnaryOperator call) {
        StringBuilder b = new StringBuilder();
        for (int k = least; k <= most; k++) {
            b.append(call.applyAsInt(k)).append(' ');
        }
        return b.toString();
    }

    private static String whatFollows(ProductiveStreams s) {
        complete(s);
        return judged(s) + " " + elements(s);
    }

    /** Objects made in two ways must be the same to every reading, at once and in all that follows. */
    static void dueSame(String what, Supplier<ProductiveStreams> made, Supplier<ProductiveStreams> twin) {
        for (String reading : PROBES.keySet()) {
            String got = PROBES.get(reading).apply(made.get());
            Check.due(reading + " after " + what, got, PROBES.get(reading).apply(twin.get()));
        }
    }

    static void dueNoChange(String call, Supplier<ProductiveStreams> state, ToLongFunction<ProductiveStreams> made, long want) {
        Check.due(call, made.applyAsLong(state.get()), want);
        dueSame(call, () -> {
            ProductiveStreams s = state.get();
            made.applyAsLong(s);
            return s;
        }, state);
    }

    static void dueRefused(String call, Supplier<ProductiveStreams> state, Predicate<ProductiveStreams> made) {
        dueNoChange(call, state, s -> made.test(s) ? 1 : 0, 0);
    }

    /** The cells of a system as its words tell them, not as an object does. */
    static String cellsOf(String words) {
        StringBuilder b = new StringBuilder();
        String[] word = words.trim().split("\\s+");
        for (int at = 0; at < word.length; at++) {
            int kind = Check.kind(word[at]);
            boolean valued = kind == ProductiveStreams.DEF || kind == ProductiveStreams.NUM || kind == ProductiveStreams.REF;
            b.append(kind).append('/').append(valued ? word[++at] : "0").append(' ');
        }
        return b.toString();
    }

    static String cells(ProductiveStreams s, int count) {
        StringBuilder b = new StringBuilder();
        for (int k = 0; k < count; k++) {
            b.append(s.cellKind(k)).append('/').append(s.cellValue(k)).append(' ');
        }
        return b.toString();
    }

    /** An object after the given words, with the result of the last eval(0, 5) that was not refused on the way. */
    static Supplier<ProductiveStreams> evaluated(int names, int cells, String... definitions) {
        return () -> {
            ProductiveStreams s = new ProductiveStreams(names, cells);
            for (String definition : definitions) {
                Check.enter(s, definition);
                s.eval(0, 5);
            }
            return s;
        };
    }

    /** An object after the given words, and after an evaluation at (name, index) if the name is not negative. */
    static Supplier<ProductiveStreams> state(int names, int cells, int name, int index, String... definitions) {
        return () -> {
            ProductiveStreams s = Check.system(names, cells, definitions);
            if (name >= 0) {
                s.eval(name, index);
            }
            return s;
        };
    }

    static Supplier<ProductiveStreams> state(int names, int cells, String... definitions) {
        return state(names, cells, -1, -1, definitions);
    }

    /** Objects with the three kinds of result, told in RESULTS; the names 3 and 4 are not defined. */
    static ProductiveStreams[] withResults() {
        ProductiveStreams[] made = new ProductiveStreams[3];
        for (int k = 0; k < 3; k++) {
            made[k] = Check.system(5, 40, "DEF 0 CONS NUM 41 REF 0", "DEF 1 REF 1", "DEF 2 TAIL REF 2");
            made[k].eval(k, 7);
        }
        return made;
    }

    /** The greatest number of cells an object takes; it must be empty before. */
    static int cellsTaken(ProductiveStreams s) {
        s.begin(0);
        for (int k = 0; k < 200 && s.token(ProductiveStreams.TAIL, 0); k++) {
            continue;
        }
        return s.used();
    }

    /** The names an object takes, as words; it must be empty before. */
    static String namesTaken(ProductiveStreams s) {
        StringBuilder b = new StringBuilder();
        for (int x = -20; x <= 20; x++) {
            if (s.begin(x)) {
                b.append(x).append(' ');
                s.token(ProductiveStreams.REF, 0);
            }
        }
        for (int x : FAR) {
            if (s.begin(x)) {
                b.append(x).append(' ');
                s.token(ProductiveStreams.REF, 0);
            }
        }
        return b.toString();
    }

    static String firstNames(int count) {
        StringBuilder b = new StringBuilder();
        for (int x = 0; x < count; x++) {
            b.append(x).append(' ');
        }
        return b.toString();
    }
}

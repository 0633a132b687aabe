import java.util.ArrayList;
import java.util.List;

/** Every system there is with one literal, up to a number of cells, on the class and on the model, which must judge and evaluate alike. */
final class SmallSystemsTest {
    private static final int[] ALL = new int[32];
    private static final int[] SOME = {0, 1, 2, 3, 30, 31};
    private static final int[] FEW = {0, 1, 31};
    private static int systems;

    public static void main(String[] args) {
        for (int j = 0; j < 32; j++) {
            ALL[j] = j;
        }
        for (List<String> expressions : bySize(1, 7)) {
            for (String words : expressions) {
                due(ALL, words);
            }
        }
        ofTwoNames();
        ofThreeNames();
        Check.due("the number of systems", systems > 70000, true);
        Check.end();
    }

    private static void ofTwoNames() {
        List<List<String>> sizes = bySize(2, 5);
        for (int first = 1; first <= 5; first++) {
            for (int second = 1; first + second <= 8 && second <= 5; second++) {
                for (String a : sizes.get(first)) {
                    for (String b : sizes.get(second)) {
                        due(first + second <= 6 ? SOME : FEW, a, b);
                    }
                }
            }
        }
    }

    private static void ofThreeNames() {
        List<String> small = new ArrayList<>();
        for (List<String> size : bySize(3, 3)) {
            small.addAll(size);
        }
        for (String a : small) {
            for (String b : small) {
                for (String c : small) {
                    due(FEW, a, b, c);
                }
            }
        }
    }

    /** All stream expressions over the names below the bound, in lists by their number of cells. */
    private static List<List<String>> bySize(int names, int most) {
        List<List<String>> streams = new ArrayList<>(List.of(List.of()));
        List<List<String>> elements = new ArrayList<>(List.of(List.of()));
        for (int size = 1; size <= most; size++) {
            List<String> stream = new ArrayList<>();
            List<String> element = new ArrayList<>();
            if (size == 1) {
                element.add("NUM 2");
                for (int x = 0; x < names; x++) {
                    stream.add("REF " + x);
                }
            } else {
                prefix("TAIL", streams.get(size - 1), stream);
                prefix("HEAD", streams.get(size - 1), element);
            }
            for (int left = 1; left < size - 1; left++) {
                int right = size - 1 - left;
                join("CONS", elements.get(left), streams.get(right), stream);
                for (String kind : new String[] {"ZIPADD", "ZIPSUB", "ZIPMUL"}) {
                    join(kind, streams.get(left), streams.get(right), stream);
                }
                for (String kind : new String[] {"ADD", "SUB", "MUL"}) {
                    join(kind, elements.get(left), elements.get(right), element);
                }
            }
            streams.add(stream);
            elements.add(element);
        }
        return streams;
    }

    private static void prefix(String kind, List<String> children, List<String> into) {
        for (String child : children) {
            into.add(kind + " " + child);
        }
    }

    private static void join(String kind, List<String> first, List<String> second, List<String> into) {
        for (String a : first) {
            for (String b : second) {
                into.add(kind + " " + a + " " + b);
            }
        }
    }

    private static void due(int[] indexes, String... expressions) {
        // One wrong system tells enough.
        if (Check.anyWrong()) {
            return;
        }
        int names = expressions.length;
        ProductiveStreams s = new ProductiveStreams(names, 40);
        Model m = new Model(names, 40);
        for (int x = 0; x < names; x++) {
            Check.enter(s, "DEF " + x + " " + expressions[x]);
            m.enter("DEF " + x + " " + expressions[x]);
        }
        systems++;
        String what = " of " + String.join("; ", expressions);
        int verdict = s.verdict();
        dueJudgement(s, m, verdict, names, what);
        boolean tail = what.contains("TAIL");
        for (int x = 0; x < names; x++) {
            for (int j : indexes) {
                int outcome = s.eval(x, j);
                dueElement(s, m, outcome, x, j, expressions);
                if (verdict == ProductiveStreams.ACCEPTED && (outcome == ProductiveStreams.BLACKHOLE || !tail && outcome != ProductiveStreams.OK)) {
                    Check.report("eval(" + x + ", " + j + ")" + what + " answered " + outcome + ", and the system is accepted");
                }
            }
        }
    }

    private static void dueJudgement(ProductiveStreams s, Model m, int verdict, int names, String what) {
        Check.due("verdict()" + what, verdict, m.verdict());
        for (int a = 0; a < names; a++) {
            for (int b = 0; b < names; b++) {
                if (s.guard(a, b) != m.guard(a, b)) {
                    Check.due("guard(" + a + ", " + b + ")" + what, s.guard(a, b), m.guard(a, b));
                }
            }
        }
    }

    private static void dueElement(ProductiveStreams s, Model m, int outcome, int name, int index, String[] expressions) {
        String got = outcome + " " + s.value() + " " + s.faultName() + " " + s.faultIndex();
        String want = wanted(m, name, index, expressions);
        if (!got.equals(want)) {
            Check.due("eval(" + name + ", " + index + ") of " + String.join("; ", expressions), got, want);
        }
    }

    /** The model goes through the same demands again and again; where that takes too long, the solution tells. */
    private static String wanted(Model m, int name, int index, String[] expressions) {
        try {
            return m.eval(name, index) + " " + m.value() + " " + m.faultName() + " " + m.faultIndex();
        } catch (Model.TooLong e) {
            StringBuilder words = new StringBuilder();
            for (int x = 0; x < expressions.length; x++) {
                words.append("DEF ").append(x).append(' ').append(expressions[x]).append(' ');
            }
            return new Solution(expressions.length, words.toString()).element(name, index);
        }
    }
}

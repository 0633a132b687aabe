import java.util.function.Supplier;

/** The boundary cases of promise 11, a test for each sentence. */
final class ResultsEdgesTest {
    private static final String NOTHING = "value 0 fault -1,-1";

    public static void main(String[] args) {
        Edges.sentence("11: value() is 0 if there was no such eval since construction", ResultsEdgesTest::noneSinceConstruction);
        Edges.sentence("11: value() is 0 if there was no such eval since the last reset", ResultsEdgesTest::noneSinceReset);
        Edges.sentence("11: value() is set by the last eval that answered OK, BLACKHOLE or RANGE", ResultsEdgesTest::lastOne);
        Edges.sentence("11: faultName() and faultIndex() are -1 after construction", ResultsEdgesTest::noFaultWhenNew);
        Edges.sentence("11: faultName() and faultIndex() are -1 after reset", ResultsEdgesTest::noFaultAfterReset);
        Edges.sentence("11: faultName() and faultIndex() are -1 after an eval that answered OK", ResultsEdgesTest::noFaultAfterOk);
        Edges.sentence("11: none of these changes anything", ResultsEdgesTest::readingsChangeNothing);
        Edges.sentence("11: begin leaves all three unchanged", ResultsEdgesTest::afterBegin);
        Edges.sentence("11: token leaves all three unchanged", ResultsEdgesTest::afterToken);
        Edges.sentence("11: verdict leaves all three unchanged", ResultsEdgesTest::afterVerdict);
        Edges.sentence("11: guard leaves all three unchanged", ResultsEdgesTest::afterGuard);
        Edges.sentence("11: an eval refused with NOTREADY leaves all three unchanged", ResultsEdgesTest::afterNotReady);
        Edges.sentence("11: an eval refused with BADARG leaves all three unchanged", ResultsEdgesTest::afterBadArgument);
        Check.end();
    }

    private static void noneSinceConstruction() {
        ProductiveStreams s = new ProductiveStreams(3, 40);
        Check.due("value() when new", s.value(), 0);
        s.eval(0, 0);
        Check.due("value() after NOTREADY for EMPTY", s.value(), 0);
        Check.enter(s, "DEF 0 CONS NUM 9");
        s.eval(0, 0);
        Check.due("value() after NOTREADY for OPEN", s.value(), 0);
        Check.enter(s, "REF 1");
        s.eval(0, 0);
        Check.due("value() after NOTREADY for UNDEFINED", s.value(), 0);
        Check.enter(s, "DEF 1 REF 0");
        s.eval(0, -1);
        s.eval(0, 32);
        s.eval(2, 0);
        Check.due("value() after BADARG", s.value(), 0);
        s.eval(0, 0);
        Check.due("value() after OK", s.value(), 9);
    }

    private static void noneSinceReset() {
        for (ProductiveStreams s : Edges.withResults()) {
            s.reset();
            Check.due("value() after reset", s.value(), 0);
            s.eval(0, 0);
            Check.enter(s, "DEF 0 CONS NUM 9 REF 0");
            s.eval(0, 32);
            Check.due("value() after reset and refused calls", s.value(), 0);
            s.eval(0, 31);
            Check.due("value() after reset and OK", s.value(), 9);
        }
    }

    /** Every outcome after every other one. */
    private static void lastOne() {
        String[] want = {"value 41 fault -1,-1", "value 0 fault 1,4", "value 0 fault 2,32"};
        for (int first = 0; first < 3; first++) {
            for (int second = 0; second < 3; second++) {
                ProductiveStreams s = Edges.withResults()[first];
                s.eval(second, 4);
                Check.due("the result of outcome " + second + " after " + first, Check.result(s), want[second]);
            }
        }
        ProductiveStreams s = Check.system(3, 40, "DEF 0 CONS NUM 2147483647 CONS NUM -2147483648 CONS NUM 0 CONS NUM -1 REF 0");
        int[] values = {Edges.MOST, Edges.LEAST, 0, -1};
        for (int j = 0; j < 32; j++) {
            Check.dueOk(s, 0, j, values[j % 4]);
        }
    }

    private static void noFaultWhenNew() {
        ProductiveStreams s = new ProductiveStreams(3, 40);
        Check.due("the result when new", Check.result(s), NOTHING);
        Check.enter(s, "DEF 1 REF 1");
        Check.due("the result before the first eval", Check.result(s), NOTHING);
        s.eval(0, 0);
        Check.due("the result after BADARG", Check.result(s), NOTHING);
    }

    private static void noFaultAfterReset() {
        for (ProductiveStreams s : Edges.withResults()) {
            s.reset();
            Check.due("faultName() after reset", s.faultName(), -1);
            Check.due("faultIndex() after reset", s.faultIndex(), -1);
            s.eval(1, 0);
            Check.due("faultName() after reset and NOTREADY", s.faultName(), -1);
            Check.due("faultIndex() after reset and NOTREADY", s.faultIndex(), -1);
        }
    }

    private static void noFaultAfterOk() {
        for (ProductiveStreams s : Edges.withResults()) {
            Check.dueOk(s, 0, 0, 41);
        }
        // The fault pair may be (0, 0), which is a pair like any other.
        ProductiveStreams t = Check.system(3, 40, "DEF 0 REF 0", "DEF 1 CONS NUM 0 REF 1");
        Check.dueFault(t, 0, 0, ProductiveStreams.BLACKHOLE, 0, 0);
        Check.dueOk(t, 1, 0, 0);
    }

    private static void readingsChangeNothing() {
        int[] values = {41, 0, 0};
        int[] faultNames = {-1, 1, 2};
        int[] faultIndexes = {-1, 7, 32};
        for (int k = 0; k < 3; k++) {
            int outcome = k;
            Supplier<ProductiveStreams> state = () -> Edges.withResults()[outcome];
            Edges.dueNoChange("value()", state, ProductiveStreams::value, values[k]);
            Edges.dueNoChange("faultName()", state, ProductiveStreams::faultName, faultNames[k]);
            Edges.dueNoChange("faultIndex()", state, ProductiveStreams::faultIndex, faultIndexes[k]);
        }
    }

    private static void dueKept(ProductiveStreams s, String before, String call) {
        Check.due("the result after " + call, Check.result(s), before);
    }

    private static void afterBegin() {
        int[] refused = {Edges.LEAST, -1, 0, 1, 2, 5, 8, Edges.MOST};
        for (int outcome = 0; outcome < 3; outcome++) {
            ProductiveStreams s = Edges.withResults()[outcome];
            String before = Edges.RESULTS[outcome];
            for (int name : refused) {
                s.begin(name);
                dueKept(s, before, "a refused begin(" + name + ")");
            }
            Check.due("begin(3)", s.begin(3), true);
            dueKept(s, before, "begin(3)");
            s.begin(4);
            dueKept(s, before, "begin(4) while 3 is open");
        }
    }

    private static void afterToken() {
        for (int outcome = 0; outcome < 3; outcome++) {
            ProductiveStreams s = Edges.withResults()[outcome];
            String before = Edges.RESULTS[outcome];
            s.token(ProductiveStreams.REF, 0);
            dueKept(s, before, "a token with none open");
            s.begin(4);
            int[][] calls = {{0, 0}, {12, 4}, {1, 77}, {11, 5}, {11, -1}, {6, 5}, {11, 3}, {1, 77}, {7, 0}, {11, 4}};
            for (int[] call : calls) {
                s.token(call[0], call[1]);
                dueKept(s, before, "token(" + call[0] + ", " + call[1] + ")");
            }
            Check.due("defined(4)", s.defined(4), true);
        }
    }

    private static void afterVerdict() {
        int[] want = {ProductiveStreams.UNGUARDED, ProductiveStreams.OPEN, ProductiveStreams.UNDEFINED, ProductiveStreams.OPEN, ProductiveStreams.UNGUARDED};
        String[] words = {"", "DEF 3", "REF 4", "DEF 4", "REF 0"};
        for (int outcome = 0; outcome < 3; outcome++) {
            ProductiveStreams s = Edges.withResults()[outcome];
            String before = Edges.RESULTS[outcome];
            for (int k = 0; k < words.length; k++) {
                if (!words[k].isEmpty()) {
                    Check.enter(s, words[k]);
                }
                Check.due("verdict()", s.verdict(), want[k]);
                dueKept(s, before, "verdict() that answered " + want[k]);
            }
        }
        // An accepted system: OK and RANGE are the only results it can have.
        ProductiveStreams t = Check.system(3, 40, "DEF 0 CONS NUM 5 REF 0", "DEF 1 TAIL REF 0");
        for (int j = 30; j < 32; j++) {
            t.eval(1, j);
            String before = Check.result(t);
            Check.due("verdict()", t.verdict(), ProductiveStreams.ACCEPTED);
            dueKept(t, before, "verdict() that answered ACCEPTED");
        }
    }

    private static void afterGuard() {
        int[] names = {Edges.LEAST, -1, 0, 1, 2, 3, 4, 5, 8, Edges.MOST};
        for (int outcome = 0; outcome < 3; outcome++) {
            ProductiveStreams s = Edges.withResults()[outcome];
            String before = Edges.RESULTS[outcome];
            for (int a : names) {
                for (int b : names) {
                    s.guard(a, b);
                    dueKept(s, before, "guard(" + a + ", " + b + ")");
                }
            }
        }
    }

    private static void afterNotReady() {
        int[] ints = {Edges.LEAST, -1, 0, 1, 2, 3, 31, 32, Edges.MOST};
        for (int outcome = 0; outcome < 3; outcome++) {
            ProductiveStreams s = Edges.withResults()[outcome];
            String before = Edges.RESULTS[outcome];
            String[] words = {"DEF 3", "REF 4"};
            for (String word : words) {
                Check.enter(s, word);
                for (int name : ints) {
                    for (int index : ints) {
                        Check.due("eval(" + name + ", " + index + ")", s.eval(name, index), ProductiveStreams.NOTREADY);
                        dueKept(s, before, "eval(" + name + ", " + index + ")");
                    }
                }
            }
        }
    }

    private static void afterBadArgument() {
        int[][] calls = {{-1, 0}, {Edges.LEAST, 0}, {5, 0}, {8, 0}, {Edges.MOST, 0}, {3, 0}, {4, 31}, {0, -1}, {0, Edges.LEAST}, {0, 32}, {0, Edges.MOST},
            {1, -1}, {1, 32}, {2, -1}, {2, 32}, {-1, -1}, {3, 32}};
        for (int outcome = 0; outcome < 3; outcome++) {
            ProductiveStreams s = Edges.withResults()[outcome];
            String before = Edges.RESULTS[outcome];
            for (int[] call : calls) {
                Check.due("eval(" + call[0] + ", " + call[1] + ")", s.eval(call[0], call[1]), ProductiveStreams.BADARG);
                dueKept(s, before, "eval(" + call[0] + ", " + call[1] + ")");
            }
        }
    }
}

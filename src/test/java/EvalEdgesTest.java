import java.util.ArrayList;
import java.util.List;
import java.util.function.Supplier;

/** The boundary cases of promise 10, a test for each sentence. */
final class EvalEdgesTest {
    private static final int OK = ProductiveStreams.OK;
    private static final int BLACKHOLE = ProductiveStreams.BLACKHOLE;
    private static final int RANGE = ProductiveStreams.RANGE;
    private static final int NOTREADY = ProductiveStreams.NOTREADY;
    private static final int BADARG = ProductiveStreams.BADARG;
    private static final int LEAST = Edges.LEAST;
    private static final int MOST = Edges.MOST;
    private static final String ONES = "DEF 0 CONS NUM 1 REF 0";
    private static final String HOLE = "DEF 1 REF 1";
    private static final String FAR = "DEF 2 TAIL REF 2";

    public static void main(String[] args) {
        refusals();
        arithmetic();
        rules();
        Edges.sentence("10: on OK: value() is name(index), faultName() and faultIndex() are -1", EvalEdgesTest::setsOnOk);
        Edges.sentence("10: on BLACKHOLE or RANGE: value() is 0, the fault pair is told", EvalEdgesTest::setsOnFault);
        Edges.sentence("10: cells and definitions do not change", EvalEdgesTest::cellsStay);
        Edges.sentence("10: ACCEPTED: eval never answers BLACKHOLE", () -> acceptedSystems(true));
        Edges.sentence("10: ACCEPTED without TAIL: eval answers OK for every defined name and index", () -> acceptedSystems(false));
        Edges.sentence("10: ACCEPTED with TAIL: RANGE is still possible", EvalEdgesTest::acceptedWithTail);
        Check.end();
    }

    private static void refusals() {
        Edges.sentence("10: NOTREADY if verdict() would answer OPEN", () -> notReady(ProductiveStreams.OPEN, "DEF 0 CONS NUM 1 REF 0", "DEF 1 CONS"));
        Edges.sentence("10: NOTREADY if verdict() would answer EMPTY", () -> notReady(ProductiveStreams.EMPTY));
        Edges.sentence("10: NOTREADY if verdict() would answer UNDEFINED", () -> notReady(ProductiveStreams.UNDEFINED, ONES, "DEF 1 CONS HEAD REF 2 REF 0"));
        Edges.sentence("10: NOTREADY is taken before BADARG", EvalEdgesTest::notReadyFirst);
        Edges.sentence("10: BADARG if name < 0", () -> badName(-1, -2, -8, -256, LEAST + 1, LEAST));
        Edges.sentence("10: BADARG if name >= NAMES", EvalEdgesTest::nameTooLarge);
        Edges.sentence("10: BADARG if index < 0", () -> badIndex(-1, -2, -32, -256, LEAST + 1, LEAST));
        Edges.sentence("10: BADARG if index >= LIMIT", () -> badIndex(32, 33, 64, 256, 65536, MOST - 1, MOST));
        Edges.sentence("10: BADARG if name is not defined", EvalEdgesTest::notDefined);
        Edges.sentence("10: the least and the greatest name and index are not refused", EvalEdgesTest::goodArguments);
        Edges.sentence("10: these refused calls change nothing", EvalEdgesTest::refusedChangeNothing);
        Edges.sentence("10: a verdict of UNGUARDED does not refuse the call", EvalEdgesTest::unguarded);
    }

    private static void arithmetic() {
        Edges.sentence("Values: + wraps around", () -> wraps("ADD", "ZIPADD", Integer::sum));
        Edges.sentence("Values: - wraps around", () -> wraps("SUB", "ZIPSUB", (a, b) -> a - b));
        Edges.sentence("Values: * wraps around", () -> wraps("MUL", "ZIPMUL", (a, b) -> a * b));
        Edges.sentence("10: computed with wrapping int arithmetic, from pair to pair", EvalEdgesTest::wrapsFromPairToPair);
    }

    private static void rules() {
        Edges.sentence("Evaluation, rule 1: (x, j) in P: BLACKHOLE, fault pair (x, j)", EvalEdgesTest::onPath);
        Edges.sentence("Evaluation, rule 1: only a pair of the path", EvalEdgesTest::notOnPath);
        Edges.sentence("Evaluation, rule 2: j >= LIMIT: RANGE, fault pair (x, j)", EvalEdgesTest::beyond);
        Edges.sentence("Evaluation, rule 2: the index LIMIT itself is out of range, LIMIT - 1 is not", EvalEdgesTest::limit);
        Edges.sentence("Evaluation, rule 2: only a demand is out of range", EvalEdgesTest::visitBeyond);
        Edges.sentence("Evaluation, rules 1 and 2: whichever is met first", EvalEdgesTest::holeOrRange);
        Edges.sentence("Evaluation, rule 3: the demands are taken in order", EvalEdgesTest::inOrder);
        Edges.sentence("Evaluation, rule 3: the first outcome that is not OK is the outcome", EvalEdgesTest::firstNotOk);
        Edges.sentence("Evaluation, rule 3: if all are OK the outcome is OK", EvalEdgesTest::allOk);
        Edges.sentence("Evaluation: CONS visits e with index 0, s with every other index", EvalEdgesTest::consVisits);
        Edges.sentence("Evaluation: HEAD visits s with index 0", EvalEdgesTest::headVisits);
    }

    private static void dueRefused(int name, int index, int want, Supplier<ProductiveStreams> state) {
        Edges.dueNoChange("eval(" + name + ", " + index + ")", state, s -> s.eval(name, index), want);
    }

    private static void notReady(int verdict, String... definitions) {
        Supplier<ProductiveStreams> state = Edges.state(4, 40, definitions);
        Check.due("verdict()", state.get().verdict(), verdict);
        for (int name = 0; name < 4; name++) {
            dueRefused(name, 0, NOTREADY, state);
            dueRefused(name, 31, NOTREADY, state);
        }
    }

    private static void notReadyFirst() {
        int[] ints = {LEAST, -1, 0, 3, 4, 8, 31, 32, MOST};
        String[][] systems = {{}, {"DEF 0"}, {ONES, "DEF 1 CONS"}, {"DEF 0 REF 1"}, {"DEF 0 ZIPADD REF 0 REF 1"}, {"DEF 1 REF 1", "DEF 0 REF 1", "DEF 2 REF 3"}};
        for (String[] definitions : systems) {
            ProductiveStreams s = Check.system(4, 40, definitions);
            for (int name : ints) {
                for (int index : ints) {
                    Check.due("eval(" + name + ", " + index + ") of " + String.join("; ", definitions), s.eval(name, index), NOTREADY);
                }
            }
        }
    }

    private static void badName(int... bad) {
        for (int names = 1; names <= 8; names++) {
            ProductiveStreams s = new ProductiveStreams(names, 40);
            for (int x = 0; x < names; x++) {
                Check.enter(s, "DEF " + x + " CONS NUM 1 REF " + x);
            }
            for (int name : bad) {
                Check.due("eval(" + name + ", 0) of " + names, s.eval(name, 0), BADARG);
                Check.due("eval(" + name + ", 31) of " + names, s.eval(name, 31), BADARG);
            }
        }
    }

    private static void nameTooLarge() {
        badName(8, 9, 32, 96, 256, 65536, MOST - 1, MOST);
        for (int names = 1; names <= 8; names++) {
            ProductiveStreams s = new ProductiveStreams(names, 40);
            for (int x = 0; x < names; x++) {
                Check.enter(s, "DEF " + x + " CONS NUM 1 REF " + x);
            }
            for (int name = names; name < 20; name++) {
                Check.due("eval(" + name + ", 0) of " + names, s.eval(name, 0), BADARG);
            }
        }
    }

    private static void badIndex(int... bad) {
        String[][] systems = {{ONES}, {"DEF 0 REF 0"}, {"DEF 0 TAIL REF 0"}, {"DEF 0 " + Check.repeat("CONS NUM 1", 40) + "REF 0"}};
        for (String[] definitions : systems) {
            for (int index : bad) {
                dueRefused(0, index, BADARG, Edges.state(3, 96, definitions));
            }
        }
    }

    private static void notDefined() {
        for (int name = 1; name < 8; name++) {
            int other = name;
            ProductiveStreams s = Check.system(8, 40, ONES);
            Check.due("eval(" + name + ", 0) when only 0 is defined", s.eval(name, 0), BADARG);
            Check.enter(s, "DEF " + name + " REF 0");
            Check.due("eval(" + name + ", 0) when it is defined", s.eval(name, 0), OK);
            dueRefused(0, 0, BADARG, () -> Check.system(8, 40, "DEF " + other + " CONS NUM 1 REF " + other));
        }
        ProductiveStreams reset = Check.system(2, 40, ONES);
        reset.reset();
        Check.enter(reset, "DEF 1 CONS NUM 1 REF 1");
        Check.due("eval of a name defined before reset", reset.eval(0, 0), BADARG);
    }

    private static void goodArguments() {
        for (int names = 1; names <= 8; names++) {
            ProductiveStreams s = new ProductiveStreams(names, 40);
            for (int x = 0; x < names; x++) {
                Check.enter(s, "DEF " + x + " CONS NUM " + (x + 10) + " REF " + x);
            }
            int[] goodNames = {0, names - 1};
            for (int name : goodNames) {
                Check.dueOk(s, name, 0, name + 10);
                Check.dueOk(s, name, 31, name + 10);
            }
        }
    }

    private static void refusedChangeNothing() {
        int[][] bad = {{-1, 0}, {4, 0}, {3, 0}, {0, -1}, {0, 32}, {1, 32}, {2, 32}, {LEAST, LEAST}, {MOST, MOST}};
        for (int first = 0; first < 3; first++) {
            Supplier<ProductiveStreams> ready = Edges.state(4, 40, first, 9, ONES, HOLE, FAR);
            for (int[] call : bad) {
                dueRefused(call[0], call[1], BADARG, ready);
            }
            Supplier<ProductiveStreams> open = then(ready, "DEF 3 CONS ADD");
            Supplier<ProductiveStreams> closed = then(ready, "DEF 3 CONS HEAD REF 3 REF 2");
            dueRefused(0, 0, NOTREADY, open);
            dueRefused(0, 32, NOTREADY, open);
            dueRefused(-1, 0, NOTREADY, open);
            dueRefused(3, 32, BADARG, closed);
        }
        for (int first = 0; first < 3; first++) {
            Supplier<ProductiveStreams> undefined = then(Edges.state(5, 40, first, 9, ONES, HOLE, FAR), "DEF 3 REF 4");
            dueRefused(0, 0, NOTREADY, undefined);
            dueRefused(4, 0, NOTREADY, undefined);
        }
    }

    private static Supplier<ProductiveStreams> then(Supplier<ProductiveStreams> state, String words) {
        return () -> {
            ProductiveStreams s = state.get();
            Check.enter(s, words);
            return s;
        };
    }

    private static void unguarded() {
        ProductiveStreams s = Check.system(4, 40, ONES, HOLE, FAR, "DEF 3 CONS NUM 6 TAIL REF 3");
        Check.due("verdict()", s.verdict(), ProductiveStreams.UNGUARDED);
        for (int j = 0; j < 32; j++) {
            Check.dueOk(s, 0, j, 1);
            Check.dueFault(s, 1, j, BLACKHOLE, 1, j);
            Check.dueFault(s, 2, j, RANGE, 2, 32);
        }
        Check.dueOk(s, 3, 0, 6);
        Check.dueFault(s, 3, 1, BLACKHOLE, 3, 1);
        // Unguarded by an edge that no visit comes to.
        ProductiveStreams t = Check.system(1, 40, "DEF 0 CONS NUM 2 CONS HEAD CONS NUM 3 TAIL TAIL TAIL REF 0 REF 0");
        Check.due("verdict()", t.verdict(), ProductiveStreams.UNGUARDED);
        for (int j = 0; j < 32; j++) {
            Check.dueOk(t, 0, j, j % 2 == 0 ? 2 : 3);
        }
    }

    private interface Operator {
        int of(int a, int b);
    }

    private static void wraps(String element, String zip, Operator operator) {
        int[] ints = {0, 1, -1, 2, -2, 3, 255, 256, 46340, 46341, -46341, 65535, 65536, 65537, 1 << 30, 1 << 16 | 7, MOST, MOST - 1, MOST / 2 + 1, LEAST, LEAST + 1, LEAST / 2};
        for (int a : ints) {
            for (int b : ints) {
                int want = operator.of(a, b);
                Check.dueOk(Check.system(1, 16, "DEF 0 CONS " + element + " NUM " + a + " NUM " + b + " REF 0"), 0, 0, want);
                ProductiveStreams s = Check.system(3, 16, "DEF 1 CONS NUM " + a + " REF 1", "DEF 2 CONS NUM " + b + " REF 2", "DEF 0 " + zip + " REF 1 REF 2");
                Check.dueOk(s, 0, 0, want);
                Check.dueOk(s, 0, 31, want);
            }
        }
    }

    private static void wrapsFromPairToPair() {
        ProductiveStreams twice = Check.system(1, 16, "DEF 0 CONS NUM 3 ZIPADD REF 0 REF 0");
        ProductiveStreams powers = Check.system(2, 16, "DEF 1 CONS NUM -7 REF 1", "DEF 0 CONS NUM 1 ZIPMUL REF 0 REF 1");
        ProductiveStreams falls = Check.system(2, 16, "DEF 1 CONS NUM 2000000000 REF 1", "DEF 0 CONS NUM -5 ZIPSUB REF 0 REF 1");
        int doubled = 3;
        int power = 1;
        int fallen = -5;
        for (int j = 0; j < 32; j++) {
            Check.dueOk(twice, 0, j, doubled);
            Check.dueOk(powers, 0, j, power);
            Check.dueOk(falls, 0, j, fallen);
            doubled += doubled;
            power *= -7;
            fallen -= 2000000000;
        }
    }

    private static void onPath() {
        for (int j = 0; j < 32; j++) {
            Check.dueFault(Check.system(3, 40, HOLE), 1, j, BLACKHOLE, 1, j);
            ProductiveStreams ring = Check.system(4, 40, "DEF 0 REF 1", "DEF 1 REF 2", "DEF 2 REF 3", "DEF 3 REF 1");
            Check.dueFault(ring, 0, j, BLACKHOLE, 1, j);
            Check.dueFault(ring, 1, j, BLACKHOLE, 1, j);
            Check.dueFault(ring, 2, j, BLACKHOLE, 2, j);
            Check.dueFault(ring, 3, j, BLACKHOLE, 3, j);
            Check.dueFault(Check.system(3, 40, "DEF 0 CONS HEAD REF 0 REF 0"), 0, j, BLACKHOLE, 0, 0);
        }
        ProductiveStreams upAndDown = Check.system(3, 40, "DEF 0 TAIL REF 1", "DEF 1 CONS NUM 4 REF 0");
        Check.dueFault(upAndDown, 0, 30, BLACKHOLE, 0, 30);
        Check.dueFault(upAndDown, 1, 31, BLACKHOLE, 1, 31);
        Check.dueOk(upAndDown, 1, 0, 4);
        // The path through all 256 pairs ends at the pair it began with.
        ProductiveStreams all = new ProductiveStreams(8, 96);
        for (int x = 0; x < 7; x++) {
            Check.enter(all, "DEF " + x + " REF " + (x + 1));
        }
        Check.enter(all, "DEF 7 CONS HEAD " + Check.repeat("TAIL", 31) + "REF 0 REF 0");
        for (int x = 0; x < 8; x++) {
            Check.dueFault(all, x, 31, BLACKHOLE, x, 31);
            Check.dueFault(all, x, 0, BLACKHOLE, x, 0);
        }
    }

    /** Met before but finished, or another pair with the same name or the same index. */
    private static void notOnPath() {
        ProductiveStreams twice = Check.system(4, 40, "DEF 0 ZIPADD REF 1 REF 1", "DEF 1 ZIPADD REF 2 REF 2", "DEF 2 CONS NUM 5 REF 2");
        ProductiveStreams diamond = Check.system(4, 40, "DEF 0 ZIPADD REF 1 REF 2", "DEF 1 REF 3", "DEF 2 REF 3", "DEF 3 CONS NUM 5 REF 3");
        ProductiveStreams again = Check.system(4, 40, "DEF 0 ZIPSUB REF 1 ZIPSUB REF 2 REF 1", "DEF 1 REF 2", "DEF 2 CONS NUM 5 REF 2");
        ProductiveStreams down = Check.system(4, 40, "DEF 0 CONS NUM 1 ZIPADD REF 0 REF 1", "DEF 1 CONS NUM 1 REF 0");
        int older = 1;
        int newer = 1;
        for (int j = 0; j < 32; j++) {
            Check.dueOk(twice, 0, j, 20);
            Check.dueOk(diamond, 0, j, 10);
            Check.dueOk(again, 0, j, 5);
            Check.dueOk(down, 0, j, newer);
            if (j > 0) {
                Check.dueOk(down, 1, j, older);
            }
            int next = newer + older;
            older = newer;
            newer = next;
        }
    }

    private static void beyond() {
        for (int tails = 1; tails <= 80; tails++) {
            ProductiveStreams s = Check.system(4, 96, "DEF 3 CONS NUM 7 REF 3", "DEF 0 " + Check.repeat("TAIL", tails) + "REF 3");
            for (int j = 0; j < 32; j++) {
                if (j + tails < 32) {
                    Check.dueOk(s, 0, j, 7);
                } else {
                    Check.dueFault(s, 0, j, RANGE, 3, j + tails);
                }
            }
        }
        ProductiveStreams most = Check.system(1, 96, "DEF 0 " + Check.repeat("TAIL", 94) + "REF 0");
        Check.dueFault(most, 0, 31, RANGE, 0, 125);
    }

    /** The pair (x, LIMIT) of every name, which is no pair of the next name either. */
    private static void limit() {
        for (int x = 0; x < 8; x++) {
            ProductiveStreams s = new ProductiveStreams(8, 96);
            int from = (x + 3) % 8;
            for (int y = 0; y < 8; y++) {
                Check.enter(s, "DEF " + y + (y == from ? " TAIL REF " + x : " CONS NUM " + y + " REF " + y));
            }
            Check.due("verdict()", s.verdict(), ProductiveStreams.ACCEPTED);
            Check.dueOk(s, from, 30, x);
            Check.dueFault(s, from, 31, RANGE, x, 32);
            Check.dueOk(s, x, 31, x);
        }
        Check.dueFault(Check.system(1, 16, "DEF 0 TAIL REF 0"), 0, 31, RANGE, 0, 32);
        Check.dueFault(Check.system(1, 16, "DEF 0 TAIL REF 0"), 0, 0, RANGE, 0, 32);
    }

    private static void visitBeyond() {
        ProductiveStreams s = Check.system(2, 96, "DEF 1 CONS NUM 8 REF 1", "DEF 0 " + Check.repeat("TAIL", 20) + Check.repeat("CONS NUM 2", 20) + "REF 1");
        ProductiveStreams last = Check.system(2, 96, "DEF 0 " + Check.repeat("TAIL", 20) + Check.repeat("CONS NUM 2", 19) + "CONS NUM 3 CONS NUM 4 REF 0");
        for (int j = 0; j < 32; j++) {
            Check.dueOk(s, 0, j, 8);
        }
        Check.dueOk(last, 0, 0, 4);
        // Element 45 of 47 is visited, and demands nothing.
        ProductiveStreams list = new ProductiveStreams(1, 96);
        list.begin(0);
        Check.enter(list, Check.repeat("TAIL", 10));
        for (int k = 0; k < 42; k++) {
            Check.enter(list, "CONS NUM " + k);
        }
        Check.enter(list, "REF 0");
        for (int j = 0; j < 32; j++) {
            Check.dueOk(list, 0, j, j + 10);
        }
    }

    private static void holeOrRange() {
        ProductiveStreams holeFirst = Check.system(4, 40, ONES, HOLE, FAR, "DEF 3 ZIPADD REF 1 REF 2");
        ProductiveStreams rangeFirst = Check.system(4, 40, ONES, HOLE, FAR, "DEF 3 ZIPADD REF 2 REF 1");
        for (int j = 0; j < 32; j++) {
            Check.dueFault(holeFirst, 3, j, BLACKHOLE, 1, j);
            Check.dueFault(rangeFirst, 3, j, RANGE, 2, 32);
        }
        ProductiveStreams up = Check.system(2, 40, "DEF 0 TAIL REF 1", "DEF 1 CONS NUM 4 REF 0");
        Check.dueFault(up, 0, 30, BLACKHOLE, 0, 30);
        Check.dueFault(up, 0, 31, RANGE, 1, 32);
        // Both as demands of one walk: the pair itself, and a pair beyond the limit.
        ProductiveStreams itself = Check.system(2, 40, "DEF 0 ZIPADD REF 0 TAIL REF 0");
        Check.dueFault(itself, 0, 31, BLACKHOLE, 0, 31);
        ProductiveStreams itselfLast = Check.system(2, 40, "DEF 0 ZIPADD TAIL REF 0 REF 0");
        Check.dueFault(itselfLast, 0, 31, RANGE, 0, 32);
    }

    private static void inOrder() {
        String[] pairs = {"ZIPADD ?1 ?2", "ZIPSUB ?1 ?2", "ZIPMUL ?1 ?2", "CONS ADD HEAD ?1 HEAD ?2 REF 0", "CONS SUB HEAD ?1 HEAD ?2 REF 0", "CONS MUL HEAD ?1 HEAD ?2 REF 0",
            "ZIPADD REF 0 ZIPADD ?1 ?2", "ZIPADD ZIPADD REF 0 ?1 ?2", "ZIPADD ZIPADD ?1 REF 0 ?2", "ZIPADD ZIPADD REF 0 REF 0 ZIPSUB ?1 ?2"};
        for (String expression : pairs) {
            String holeFirst = expression.replace("?1", "REF 1").replace("?2", "REF 2");
            String rangeFirst = expression.replace("?1", "REF 2").replace("?2", "REF 1");
            Check.dueFault(Check.system(4, 40, ONES, HOLE, FAR, "DEF 3 " + holeFirst), 3, 0, BLACKHOLE, 1, 0);
            Check.dueFault(Check.system(4, 40, ONES, HOLE, FAR, "DEF 3 " + rangeFirst), 3, 0, RANGE, 2, 32);
        }
        // All that the first demand leads to comes before the second demand, even if the second can be refused at once.
        ProductiveStreams second = Check.system(4, 40, ONES, HOLE, FAR, "DEF 3 ZIPADD REF 1 TAIL REF 0");
        Check.dueFault(second, 3, 31, BLACKHOLE, 1, 31);
        ProductiveStreams loop = Check.system(4, 40, ONES, HOLE, FAR, "DEF 3 ZIPADD REF 2 REF 3");
        Check.dueFault(loop, 3, 31, RANGE, 2, 32);
        ProductiveStreams deep = Check.system(4, 40, "DEF 0 REF 2", HOLE, "DEF 2 TAIL REF 2", "DEF 3 ZIPADD REF 0 REF 1");
        Check.dueFault(deep, 3, 5, RANGE, 2, 32);
        ProductiveStreams own = Check.system(4, 40, ONES, HOLE, FAR, "DEF 3 ZIPADD REF 3 REF 1");
        Check.dueFault(own, 3, 5, BLACKHOLE, 3, 5);
        ProductiveStreams ownLast = Check.system(4, 40, ONES, HOLE, FAR, "DEF 3 ZIPADD REF 1 REF 3");
        Check.dueFault(ownLast, 3, 5, BLACKHOLE, 1, 5);
    }

    private static void firstNotOk() {
        String[] zeros = {"ZIPMUL REF 0 REF 1", "ZIPMUL REF 1 REF 0", "ZIPSUB REF 1 REF 1", "ZIPADD REF 0 REF 1", "CONS MUL NUM 0 HEAD REF 1 REF 0", "CONS ADD HEAD REF 1 NUM 1 REF 0"};
        for (String expression : zeros) {
            // A product with 0 faults like any other.
            ProductiveStreams s = Check.system(4, 40, "DEF 0 CONS NUM 0 REF 0", HOLE, "DEF 3 " + expression);
            Check.dueFault(s, 3, 0, BLACKHOLE, 1, 0);
        }
        // The fault of the last of many demands, and of a pair far down.
        ProductiveStreams last = Check.system(3, 96, "DEF 0 CONS NUM 1 REF 0", FAR, "DEF 1 " + Check.repeat("ZIPADD REF 0", 40) + "REF 2");
        Check.dueFault(last, 1, 9, RANGE, 2, 32);
        ProductiveStreams down = Check.system(3, 96, "DEF 0 CONS HEAD REF 1 ZIPADD REF 0 REF 0", HOLE);
        Check.dueFault(down, 0, 31, BLACKHOLE, 1, 0);
    }

    private static void allOk() {
        ProductiveStreams s = Check.system(3, 96, ONES, "DEF 1 CONS NUM 10 CONS NUM 20 REF 1", "DEF 2 " + Check.repeat("ZIPADD REF 0", 30) + "ZIPSUB REF 1 REF 0");
        for (int j = 0; j < 32; j++) {
            Check.dueOk(s, 2, j, (j % 2 == 0 ? 10 : 20) + 29);
        }
        // No demand at all.
        Check.dueOk(Check.system(1, 16, "DEF 0 CONS NUM -3 REF 0"), 0, 0, -3);
    }

    private static void consVisits() {
        ProductiveStreams element = Check.system(4, 40, ONES, HOLE, "DEF 3 CONS HEAD REF 1 REF 0");
        Check.dueFault(element, 3, 0, BLACKHOLE, 1, 0);
        ProductiveStreams stream = Check.system(4, 40, ONES, HOLE, "DEF 3 CONS NUM 4 REF 1");
        Check.dueOk(stream, 3, 0, 4);
        for (int j = 1; j < 32; j++) {
            Check.dueOk(element, 3, j, 1);
            Check.dueFault(stream, 3, j, BLACKHOLE, 1, j - 1);
        }
    }

    private static void headVisits() {
        ProductiveStreams s = Check.system(4, 60, "DEF 1 CONS NUM 10 CONS NUM 20 CONS NUM 30 REF 1", "DEF 0 CONS NUM 0 CONS NUM 0 CONS HEAD TAIL REF 1 CONS HEAD REF 1 REF 1");
        Check.dueOk(s, 0, 2, 20);
        Check.dueOk(s, 0, 3, 10);
        Check.dueOk(s, 0, 4, 10);
        Check.dueOk(s, 0, 5, 20);
        ProductiveStreams limit = Check.system(4, 96, ONES, "DEF 1 CONS HEAD " + Check.repeat("TAIL", 31) + "REF 0 CONS HEAD " + Check.repeat("TAIL", 32) + "REF 0 REF 0");
        Check.dueOk(limit, 1, 0, 1);
        Check.dueFault(limit, 1, 1, RANGE, 0, 32);
        Check.dueOk(limit, 1, 2, 1);
    }

    private static void setsOnOk() {
        for (ProductiveStreams s : Edges.withResults()) {
            Check.due("eval(0, 3)", s.eval(0, 3), OK);
            Check.due("value() on OK", s.value(), 41);
            Check.due("faultName() on OK", s.faultName(), -1);
            Check.due("faultIndex() on OK", s.faultIndex(), -1);
        }
    }

    private static void setsOnFault() {
        for (ProductiveStreams s : Edges.withResults()) {
            Check.due("eval(1, 3)", s.eval(1, 3), BLACKHOLE);
            Check.due("value() on BLACKHOLE", s.value(), 0);
            Check.due("faultName() on BLACKHOLE", s.faultName(), 1);
            Check.due("faultIndex() on BLACKHOLE", s.faultIndex(), 3);
        }
        for (ProductiveStreams s : Edges.withResults()) {
            Check.due("eval(2, 3)", s.eval(2, 3), RANGE);
            Check.due("value() on RANGE", s.value(), 0);
            Check.due("faultName() on RANGE", s.faultName(), 2);
            Check.due("faultIndex() on RANGE", s.faultIndex(), 32);
        }
    }

    private static void cellsStay() {
        String[] definitions = {ONES, HOLE, FAR, "DEF 3 CONS ADD NUM 4 HEAD REF 0 ZIPADD TAIL REF 0 REF 3",
            "DEF 4 CONS NUM 1 REF 5", "DEF 5 CONS NUM 1 REF 4", "DEF 6 CONS NUM 1 REF 7", "DEF 7 REF 6"};
        String before = withoutResult(Check.system(8, 40, definitions));
        String cells = Edges.cellsOf(String.join(" ", definitions));
        ProductiveStreams s = Check.system(8, 40, definitions);
        for (int x = 0; x < 8; x++) {
            for (int j = 0; j < 32; j++) {
                s.eval(x, j);
                Check.due("the object after eval(" + x + ", " + j + ")", withoutResult(s), before);
                Check.due("the cells after eval(" + x + ", " + j + ")", Edges.cells(s, s.used()), cells);
            }
        }
    }

    private static String withoutResult(ProductiveStreams s) {
        return Edges.judged(s).replaceAll("value.*fault \\S+", "");
    }

    /** All small stream expressions over two names. */
    private static List<String> expressions(boolean tails) {
        List<String> leaves = List.of("REF 0", "REF 1");
        List<String> small = new ArrayList<>(leaves);
        for (String a : leaves) {
            small.add("CONS NUM 2 " + a);
            if (tails) {
                small.add("TAIL " + a);
            }
            for (String b : leaves) {
                small.add("CONS HEAD " + a + " " + b);
            }
        }
        List<String> all = new ArrayList<>(small);
        for (String a : small) {
            all.add("CONS NUM 3 " + a);
            all.add("CONS NUM 4 CONS NUM 5 " + a);
            if (tails) {
                all.add("TAIL " + a);
            }
            for (String b : leaves) {
                all.add("CONS HEAD " + a + " CONS NUM 6 " + b);
                all.add("CONS NUM 7 ZIPSUB " + a + " " + b);
                all.add("ZIPMUL " + b + " " + a);
            }
        }
        return all;
    }

    private static void acceptedSystems(boolean tails) {
        List<String> all = expressions(tails);
        int accepted = 0;
        for (String first : all) {
            for (String second : all) {
                ProductiveStreams s = Check.system(2, 40, "DEF 1 " + first, "DEF 0 " + second);
                if (s.verdict() == ProductiveStreams.ACCEPTED) {
                    accepted++;
                    dueAccepted(s, tails, first + " and " + second);
                }
            }
        }
        Check.due("many accepted systems", accepted > 200, true);
    }

    private static void dueAccepted(ProductiveStreams s, boolean tails, String what) {
        for (int x = 0; x < 2; x++) {
            for (int j = 0; j < 32; j++) {
                String call = "eval(" + x + ", " + j + ") of " + what;
                int outcome = s.eval(x, j);
                if (outcome == BLACKHOLE || !tails && outcome != OK) {
                    Check.report(call + " answered " + outcome);
                }
                if (!tails) {
                    Check.due("faultName() after " + call, s.faultName(), -1);
                    Check.due("faultIndex() after " + call, s.faultIndex(), -1);
                }
            }
        }
    }

    private static void acceptedWithTail() {
        ProductiveStreams s = Check.system(2, 40, ONES, "DEF 1 TAIL REF 0");
        Check.due("verdict()", s.verdict(), ProductiveStreams.ACCEPTED);
        Check.dueOk(s, 1, 30, 1);
        Check.dueFault(s, 1, 31, RANGE, 0, 32);
    }
}

import java.util.ArrayList;
import java.util.List;
import java.util.function.Supplier;

/** The boundary cases of promise 2, a test for each sentence. */
final class ResetEdgesTest {
    private static final List<Supplier<ProductiveStreams>> STATES = new ArrayList<>();

    public static void main(String[] args) {
        gatherStates();
        Edges.sentence("2: reset() removes all cells: used() is 0", ResetEdgesTest::noCells);
        Edges.sentence("2: reset() removes all definitions: no name is defined", ResetEdgesTest::noDefinitions);
        Edges.sentence("2: no definition is open (openName() is -1, pending() is 0)", ResetEdgesTest::noneOpen);
        Edges.sentence("2: value() becomes 0", ResetEdgesTest::valueIsZero);
        Edges.sentence("2: faultName() and faultIndex() become -1", ResetEdgesTest::noFault);
        Edges.sentence("2: NAMES stays", ResetEdgesTest::namesStay);
        Edges.sentence("2: CELLS stays", ResetEdgesTest::cellsStay);
        Edges.sentence("2: it always works, in every state", ResetEdgesTest::everyState);
        Edges.sentence("2: including the state right after construction", ResetEdgesTest::afterConstruction);
        Check.end();
    }

    /** All of them have four names and twenty cells. */
    private static void gatherStates() {
        add(0, 0, "DEF 0 CONS NUM 5 REF 0");
        add(0, 31, "DEF 0 CONS NUM 5 REF 0", "DEF 3 REF 0");
        add(1, 3, "DEF 1 REF 1");
        add(2, 3, "DEF 2 TAIL REF 2");
        add(0, 0, "DEF 0 CONS NUM 5 REF 3");
        add(3, 32, "DEF 3 CONS NUM 5 REF 3");
        add(0, 0, "DEF 0");
        add(0, 0, "DEF 3 CONS ADD HEAD ZIPADD");
        add(0, 0, "DEF 0 REF 0", "DEF 1 REF 1", "DEF 2 REF 2", "DEF 3 REF 3");
        add(0, 0, "DEF 0 " + Check.repeat("TAIL", 18) + "REF 0");
        add(0, 0, "DEF 0 " + Check.repeat("ZIPADD", 19));
        add(0, 0, "DEF 2 CONS " + Check.repeat("ADD", 18));
        add(0, 0, "DEF 3 " + Check.repeat("TAIL", 17) + "REF 0", "DEF 0");
        // An open definition that leaves a value, and one that leaves a fault.
        STATES.add(() -> then(Edges.state(4, 20, 0, 9, "DEF 0 CONS NUM 5 REF 0"), "DEF 1 ZIPMUL CONS"));
        STATES.add(() -> then(Edges.state(4, 20, 0, 9, "DEF 0 REF 0"), "DEF 1 ZIPMUL CONS"));
        STATES.add(() -> then(Edges.state(4, 20, 0, 9, "DEF 0 TAIL REF 0"), "DEF 1 ZIPMUL CONS"));
        STATES.add(ResetEdgesTest::afterRefusedCalls);
        STATES.add(() -> resetTwice(Edges.state(4, 20, 0, 0, "DEF 0 REF 0")));
    }

    private static void add(int name, int index, String... definitions) {
        STATES.add(Edges.state(4, 20, name, index, definitions));
    }

    private static ProductiveStreams then(Supplier<ProductiveStreams> state, String words) {
        ProductiveStreams s = state.get();
        Check.enter(s, words);
        return s;
    }

    private static ProductiveStreams afterRefusedCalls() {
        ProductiveStreams s = new ProductiveStreams(4, 20);
        s.begin(4);
        s.token(ProductiveStreams.REF, 0);
        s.eval(0, 0);
        return s;
    }

    private static ProductiveStreams resetTwice(Supplier<ProductiveStreams> state) {
        ProductiveStreams s = state.get();
        s.reset();
        s.reset();
        return s;
    }

    private static List<ProductiveStreams> resetOnes() {
        List<ProductiveStreams> made = new ArrayList<>();
        for (Supplier<ProductiveStreams> state : STATES) {
            ProductiveStreams s = state.get();
            s.reset();
            made.add(s);
        }
        return made;
    }

    private static void noCells() {
        for (ProductiveStreams s : resetOnes()) {
            Check.due("used() after reset", s.used(), 0);
            for (int k = 0; k < 96; k++) {
                Check.due("cellKind(" + k + ") after reset", s.cellKind(k), 0);
                Check.due("cellValue(" + k + ") after reset", s.cellValue(k), 0);
            }
        }
    }

    private static void noDefinitions() {
        for (ProductiveStreams s : resetOnes()) {
            Check.due("verdict() after reset", s.verdict(), ProductiveStreams.EMPTY);
            Check.due("eval(0, 0) after reset", s.eval(0, 0), ProductiveStreams.NOTREADY);
            for (int x = 0; x < 4; x++) {
                Check.due("defined(" + x + ") after reset", s.defined(x), false);
                for (int y = 0; y < 4; y++) {
                    Check.due("guard(" + x + ", " + y + ") after reset", s.guard(x, y), ProductiveStreams.NONE);
                }
            }
        }
    }

    private static void noneOpen() {
        for (ProductiveStreams s : resetOnes()) {
            Check.due("openName() after reset", s.openName(), -1);
            Check.due("pending() after reset", s.pending(), 0);
            for (int k = 0; k < 96; k++) {
                Check.due("slot(" + k + ") after reset", s.slot(k), ProductiveStreams.SORT_NONE);
            }
            for (int kind = 1; kind <= 11; kind++) {
                Check.due("token(" + kind + ", 0) after reset", s.token(kind, 0), false);
            }
        }
    }

    private static void valueIsZero() {
        ProductiveStreams s = Edges.withResults()[0];
        s.reset();
        Check.due("value() after OK and reset", s.value(), 0);
        for (ProductiveStreams t : resetOnes()) {
            Check.due("value() after reset", t.value(), 0);
        }
    }

    private static void noFault() {
        for (ProductiveStreams s : Edges.withResults()) {
            s.reset();
            Check.due("faultName() after eval and reset", s.faultName(), -1);
            Check.due("faultIndex() after eval and reset", s.faultIndex(), -1);
        }
        for (ProductiveStreams s : resetOnes()) {
            Check.due("faultName() after reset", s.faultName(), -1);
            Check.due("faultIndex() after reset", s.faultIndex(), -1);
        }
    }

    private static void namesStay() {
        int[][] sizes = {{Edges.LEAST, 1}, {0, 1}, {1, 1}, {2, 2}, {3, 3}, {4, 4}, {5, 5}, {6, 6}, {7, 7}, {8, 8}, {9, 8}, {Edges.MOST, 8}};
        for (int[] size : sizes) {
            ProductiveStreams s = new ProductiveStreams(size[0], 16);
            for (int round = 0; round < 3; round++) {
                s.reset();
                Check.due("names " + size[0] + " after reset", Edges.namesTaken(s), Edges.firstNames(size[1]));
            }
        }
    }

    private static void cellsStay() {
        int[][] sizes = {{Edges.LEAST, 16}, {0, 16}, {15, 16}, {16, 16}, {17, 17}, {60, 60}, {95, 95}, {96, 96}, {97, 96}, {Edges.MOST, 96}};
        for (int[] size : sizes) {
            ProductiveStreams s = new ProductiveStreams(2, size[0]);
            for (int round = 0; round < 3; round++) {
                s.reset();
                Check.due("cells " + size[0] + " after reset", Edges.cellsTaken(s), size[1]);
            }
        }
    }

    /** What was there before must not be felt in anything that is done later. */
    private static void everyState() {
        String[][] systems = {
            {"DEF 0 REF 1"},
            {"DEF 3 CONS NUM 7 CONS SUB NUM 9 NUM 1 REF 3", "DEF 0 ZIPADD REF 3 TAIL REF 3"},
            {"DEF 1 TAIL TAIL REF 2", "DEF 2 CONS NUM 1 REF 1"},
            {"DEF 2 CONS NUM 1 CONS HEAD REF 0"},
            {"DEF 2 " + Check.repeat("TAIL", 18) + "REF 2"}};
        for (int k = 0; k < STATES.size(); k++) {
            Supplier<ProductiveStreams> state = STATES.get(k);
            Edges.dueSame("reset of state " + k, () -> afterReset(state), () -> new ProductiveStreams(4, 20));
            for (String[] system : systems) {
                Edges.dueSame("reset of state " + k + " and new definitions", () -> afterReset(state, system), Edges.state(4, 20, system));
            }
        }
    }

    private static ProductiveStreams afterReset(Supplier<ProductiveStreams> state, String... definitions) {
        ProductiveStreams s = state.get();
        s.reset();
        for (String definition : definitions) {
            Check.enter(s, definition);
        }
        return s;
    }

    private static void afterConstruction() {
        Supplier<ProductiveStreams> fresh = () -> new ProductiveStreams(4, 20);
        Edges.dueSame("reset of a new object", () -> afterReset(fresh), fresh);
        Check.due("cells after reset of a new object", Edges.cellsTaken(afterReset(fresh)), 20);
        Check.due("names after reset of a new object", Edges.namesTaken(afterReset(fresh)), Edges.firstNames(4));
    }
}

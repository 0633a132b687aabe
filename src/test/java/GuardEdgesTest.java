/** The boundary cases of promise 9, a test for each sentence. */
final class GuardEdgesTest {
    private static final int NONE = ProductiveStreams.NONE;

    public static void main(String[] args) {
        Edges.sentence("9: guard(a, b) is the greatest weight of a walk from a to b", GuardEdgesTest::greatest);
        Edges.sentence("9: a walk has from 1 edge", GuardEdgesTest::oneEdge);
        Edges.sentence("9: a walk has to NAMES edges", GuardEdgesTest::mostEdges);
        Edges.sentence("9: guard(a, a) needs at least one edge", GuardEdgesTest::noEdge);
        Edges.sentence("9: NONE if a is outside 0..NAMES-1", () -> outside(true, false));
        Edges.sentence("9: NONE if b is outside 0..NAMES-1", () -> outside(false, true));
        Edges.sentence("9: NONE if a and b are outside 0..NAMES-1", () -> outside(true, true));
        Edges.sentence("9: NONE if there is no such walk", GuardEdgesTest::noWalk);
        Edges.sentence("9: the open definition, if any, gives no edges", GuardEdgesTest::open);
        Edges.sentence("9: an edge to a name that is not defined still counts", GuardEdgesTest::toUndefined);
        Edges.sentence("9: though no walk continues from it", GuardEdgesTest::notBeyondUndefined);
        Edges.sentence("9: a weight that is very small is not taken for NONE", GuardEdgesTest::smallWeights);
        Edges.sentence("9: guard changes nothing", GuardEdgesTest::changesNothing);
        Check.end();
    }

    private static void due(ProductiveStreams s, int a, int b, int want) {
        Check.due("guard(" + a + ", " + b + ")", s.guard(a, b), want);
    }

    private static void greatest() {
        String[] edges = {"CONS NUM 1 CONS NUM 1 REF 1", "CONS NUM 1 REF 1", "REF 1", "TAIL REF 1"};
        int[] weights = {-2, -1, 0, 1};
        for (int first = 0; first < 4; first++) {
            for (int second = 0; second < 4; second++) {
                ProductiveStreams s = Check.system(2, 40, "DEF 0 ZIPADD " + edges[first] + " " + edges[second]);
                due(s, 0, 1, Math.max(weights[first], weights[second]));
            }
        }
        // Two edges against one, either of them the heavier.
        ProductiveStreams longer = Check.system(3, 40, "DEF 0 ZIPADD CONS NUM 1 REF 1 REF 2", "DEF 2 REF 1");
        due(longer, 0, 1, 0);
        ProductiveStreams shorter = Check.system(3, 40, "DEF 0 ZIPADD REF 1 REF 2", "DEF 2 CONS NUM 1 REF 1");
        due(shorter, 0, 1, 0);
    }

    private static void oneEdge() {
        for (int names = 1; names <= 8; names++) {
            int last = names - 1;
            due(Check.system(names, 40, "DEF 0 REF " + last), 0, last, 0);
            due(Check.system(names, 40, "DEF 0 CONS NUM 1 REF 0"), 0, 0, -1);
            due(Check.system(names, 40, "DEF " + last + " CONS NUM 1 REF " + last), last, last, -1);
            due(Check.system(names, 40, "DEF " + last + " REF 0"), last, 0, 0);
        }
    }

    /** Each TAIL on the way adds 1, so the weight counts the edges. */
    private static void mostEdges() {
        for (int names = 1; names <= 8; names++) {
            due(Check.system(names, 40, "DEF 0 TAIL REF 0"), 0, 0, names);
            ProductiveStreams ring = new ProductiveStreams(names, 40);
            for (int x = 0; x < names; x++) {
                Check.enter(ring, "DEF " + x + " TAIL REF " + (x + 1) % names);
            }
            for (int x = 0; x < names; x++) {
                for (int y = 0; y < names; y++) {
                    due(ring, x, y, x == y ? names : (y - x + names) % names);
                }
            }
            if (names > 1) {
                ProductiveStreams loop = Check.system(names, 40, "DEF 0 ZIPADD TAIL REF 0 REF 1");
                due(loop, 0, 1, names - 1);
                ProductiveStreams loopAtEnd = Check.system(names, 40, "DEF 0 REF 1", "DEF 1 TAIL REF 1");
                due(loopAtEnd, 0, 1, names - 1);
                due(loopAtEnd, 1, 1, names);
            }
            if (names > 2) {
                ProductiveStreams between = Check.system(names, 40, "DEF 0 REF 1", "DEF 1 ZIPADD TAIL REF 1 REF 2");
                due(between, 0, 2, names - 2);
            }
        }
    }

    private static void noEdge() {
        for (int names = 1; names <= 8; names++) {
            ProductiveStreams s = new ProductiveStreams(names, 40);
            for (int x = 0; x < names; x++) {
                due(s, x, x, NONE);
            }
            for (int x = 0; x + 1 < names; x++) {
                Check.enter(s, "DEF " + x + " TAIL REF " + (x + 1));
            }
            for (int x = 0; x < names; x++) {
                due(s, x, x, NONE);
            }
        }
    }

    private static void outside(boolean badFrom, boolean badTo) {
        for (int names = 1; names <= 8; names++) {
            ProductiveStreams s = new ProductiveStreams(names, 96);
            for (int x = 0; x < names; x++) {
                Check.enter(s, "DEF " + x + " ZIPADD REF " + x + " ZIPADD REF 0 REF " + (names - 1));
            }
            int[] bad = {-1, -2, -8, -256, Edges.LEAST, Edges.LEAST + 1, names, names + 1, 8, 9, 32, 256, 65536, Edges.MOST - 1, Edges.MOST};
            int[] good = {0, names - 1};
            for (int a : badFrom ? bad : good) {
                for (int b : badTo ? bad : good) {
                    due(s, a, b, NONE);
                }
            }
            due(s, 0, names - 1, 0);
            due(s, names - 1, 0, 0);
        }
    }

    private static void noWalk() {
        ProductiveStreams s = Check.system(6, 60, "DEF 0 REF 1", "DEF 1 CONS NUM 1 REF 1", "DEF 2 ZIPADD REF 0 REF 3", "DEF 3 TAIL REF 3");
        int[][] want = {
            {NONE, 0, NONE, NONE, NONE, NONE},
            {NONE, -1, NONE, NONE, NONE, NONE},
            {0, 0, NONE, 5, NONE, NONE},
            {NONE, NONE, NONE, 6, NONE, NONE},
            {NONE, NONE, NONE, NONE, NONE, NONE},
            {NONE, NONE, NONE, NONE, NONE, NONE}};
        for (int a = 0; a < 6; a++) {
            for (int b = 0; b < 6; b++) {
                due(s, a, b, want[a][b]);
            }
        }
    }

    private static void open() {
        for (int name = 0; name < 8; name++) {
            int other = (name + 1) % 8;
            ProductiveStreams s = Check.system(8, 96, "DEF " + name + " ZIPADD REF " + name + " ZIPADD TAIL REF " + other);
            for (int a = 0; a < 8; a++) {
                for (int b = 0; b < 8; b++) {
                    due(s, a, b, NONE);
                }
            }
            Check.enter(s, "REF " + other);
            due(s, name, name, 0);
            due(s, name, other, 1);
        }
        // A closed definition before the open one keeps its edges and gets no longer walks.
        ProductiveStreams t = Check.system(4, 96, "DEF 0 TAIL REF 1", "DEF 1 ZIPADD REF 2 ZIPADD REF 0");
        due(t, 0, 1, 1);
        due(t, 0, 0, NONE);
        due(t, 0, 2, NONE);
        due(t, 1, 2, NONE);
        due(t, 1, 0, NONE);
        Check.enter(t, "REF 3");
        due(t, 0, 1, 2);
        due(t, 0, 0, 2);
        due(t, 0, 2, 2);
        due(t, 1, 2, 1);
        due(t, 1, 0, 1);
        due(t, 1, 3, 1);
    }

    private static void toUndefined() {
        for (int name = 1; name < 8; name++) {
            ProductiveStreams s = Check.system(8, 96, "DEF 0 ZIPADD CONS NUM 1 REF 0 TAIL REF " + name);
            due(s, 0, name, 1);
            due(s, 0, 0, -1);
            s.begin(name);
            due(s, 0, name, 1);
            Check.enter(s, "CONS NUM 1 CONS NUM 1 CONS NUM 1 REF " + name);
            due(s, 0, name, 1);
            due(s, name, name, -3);
        }
    }

    private static void notBeyondUndefined() {
        ProductiveStreams s = Check.system(4, 96, "DEF 0 TAIL REF 1", "DEF 2 REF 0");
        int[][] want = {{NONE, 1, NONE, NONE}, {NONE, NONE, NONE, NONE}, {0, 1, NONE, NONE}, {NONE, NONE, NONE, NONE}};
        dueAll(s, want);
        s.begin(1);
        dueAll(s, want);
        Check.enter(s, "ZIPADD REF 0 ZIPADD REF 1 REF 3");
        due(s, 0, 3, 2);
        due(s, 1, 3, 1);
        due(s, 3, 3, NONE);
        due(s, 3, 0, NONE);
        due(s, 0, 0, 2);
    }

    private static void dueAll(ProductiveStreams s, int[][] want) {
        for (int a = 0; a < want.length; a++) {
            for (int b = 0; b < want.length; b++) {
                due(s, a, b, want[a][b]);
            }
        }
    }

    private static void smallWeights() {
        due(Check.system(1, 96, "DEF 0 " + Check.repeat("CONS NUM 1", 47) + "REF 0"), 0, 0, -47);
        ProductiveStreams ring = new ProductiveStreams(8, 96);
        for (int x = 0; x < 8; x++) {
            Check.enter(ring, "DEF " + x + " " + Check.repeat("CONS NUM 1", 5) + "REF " + (x + 1) % 8);
        }
        due(ring, 0, 0, -40);
        due(ring, 1, 0, -35);
        due(Check.system(8, 96, "DEF 7 " + Check.repeat("TAIL", 94) + "REF 7"), 7, 7, 8 * 94);
        due(Check.system(8, 96, "DEF 7 " + Check.repeat("TAIL", 94) + "REF 6"), 7, 6, 94);
    }

    private static void changesNothing() {
        String[][] systems = {{}, {"DEF 0 CONS"}, {"DEF 0 CONS NUM 1 REF 0"}, {"DEF 0 REF 1"}, {"DEF 0 TAIL REF 0", "DEF 1 ZIPADD REF 0 CONS ADD"}};
        int[] want = {NONE, NONE, -1, NONE, 3};
        for (int k = 0; k < systems.length; k++) {
            Edges.dueNoChange("guard(0, 0)", Edges.state(3, 40, systems[k]), s -> s.guard(0, 0), want[k]);
            Edges.dueNoChange("guard(-1, 3)", Edges.state(3, 40, systems[k]), s -> s.guard(-1, 3), NONE);
        }
        int[][] calls = {{0, 0, -1}, {1, 1, 0}, {2, 2, 5}, {0, 1, NONE}, {5, 0, NONE}, {-1, -1, NONE}};
        for (int k = 0; k < 3; k++) {
            int outcome = k;
            for (int[] call : calls) {
                String words = "guard(" + call[0] + ", " + call[1] + ") after eval";
                Edges.dueNoChange(words, () -> Edges.withResults()[outcome], s -> s.guard(call[0], call[1]), call[2]);
            }
        }
    }
}

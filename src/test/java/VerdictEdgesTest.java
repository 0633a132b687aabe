/** The boundary cases of promise 8, a test for each sentence. */
final class VerdictEdgesTest {
    private static final int ACCEPTED = ProductiveStreams.ACCEPTED;
    private static final int OPEN = ProductiveStreams.OPEN;
    private static final int EMPTY = ProductiveStreams.EMPTY;
    private static final int UNDEFINED = ProductiveStreams.UNDEFINED;
    private static final int UNGUARDED = ProductiveStreams.UNGUARDED;
    private static final String ONES = "DEF 0 CONS NUM 1 REF 0";

    public static void main(String[] args) {
        Edges.sentence("8: a definition is open: OPEN", VerdictEdgesTest::open);
        Edges.sentence("8: OPEN is taken before all the others", VerdictEdgesTest::openFirst);
        Edges.sentence("8: no name is defined: EMPTY", VerdictEdgesTest::empty);
        Edges.sentence("8: some REF cell of a closed definition names a name that is not defined: UNDEFINED", VerdictEdgesTest::undefined);
        Edges.sentence("8: UNDEFINED is taken before UNGUARDED", VerdictEdgesTest::undefinedFirst);
        Edges.sentence("8: some defined name x has guard(x, x) >= 0: UNGUARDED", VerdictEdgesTest::unguarded);
        Edges.sentence("8: guard(x, x) of exactly 0 is UNGUARDED, of -1 is not", VerdictEdgesTest::weightZero);
        Edges.sentence("8: any one defined name will do", VerdictEdgesTest::anyName);
        Edges.sentence("8: otherwise ACCEPTED", VerdictEdgesTest::accepted);
        Edges.sentence("8: verdict() changes nothing", VerdictEdgesTest::changesNothing);
        Check.end();
    }

    private static void due(int want, String... definitions) {
        due(8, want, definitions);
    }

    private static void due(int names, int want, String... definitions) {
        ProductiveStreams s = Check.system(names, 96, definitions);
        Check.due("verdict() of " + String.join("; ", definitions), s.verdict(), want);
    }

    private static void open() {
        for (int name = 0; name < 8; name++) {
            due(OPEN, "DEF " + name);
            due(OPEN, "DEF " + name + " CONS NUM 1");
            due(OPEN, "DEF " + name + " CONS HEAD");
            ProductiveStreams s = Check.system(8, 96, "DEF " + name + " CONS NUM 1 REF " + name);
            Check.due("verdict() when " + name + " is closed", s.verdict(), ACCEPTED);
        }
        ProductiveStreams full = Check.system(1, 16, "DEF 0 " + Check.repeat("TAIL", 15));
        Check.due("verdict() of an open definition that can't end", full.verdict(), OPEN);
    }

    private static void openFirst() {
        due(OPEN, "DEF 7 ZIPADD REF 6");
        due(OPEN, "DEF 0 REF 1", "DEF 2");
        due(OPEN, "DEF 0 REF 1", "DEF 1");
        due(OPEN, "DEF 0 REF 0", "DEF 1 TAIL");
        due(OPEN, "DEF 0 ZIPADD REF 0 REF 1", "DEF 2");
        due(OPEN, ONES, "DEF 1 CONS NUM 1");
    }

    private static void empty() {
        ProductiveStreams s = new ProductiveStreams(8, 96);
        Check.due("verdict() when new", s.verdict(), EMPTY);
        s.begin(8);
        s.begin(-1);
        s.token(ProductiveStreams.REF, 0);
        Check.due("verdict() after refused calls", s.verdict(), EMPTY);
        String[] before = {"DEF 0", ONES, "DEF 0 REF 1", "DEF 0 REF 0", "DEF 7 REF 7"};
        for (String definition : before) {
            Check.enter(s, definition);
            s.reset();
            Check.due("verdict() after reset of " + definition, s.verdict(), EMPTY);
        }
        // One definition is enough, whichever name it has.
        for (int name = 0; name < 8; name++) {
            due(ACCEPTED, "DEF " + name + " CONS NUM 1 REF " + name);
        }
    }

    /** One reference to an undefined name, everywhere where a reference may stand. */
    private static void undefined() {
        String[] places = {"?", "TAIL ?", "CONS NUM 1 ?", "CONS HEAD ? REF 0", "ZIPADD ? REF 0", "ZIPADD REF 0 ?", "ZIPSUB ? REF 0", "ZIPSUB REF 0 ?",
            "ZIPMUL ? REF 0", "ZIPMUL REF 0 ?", "CONS ADD HEAD ? NUM 1 REF 0", "CONS ADD NUM 1 HEAD ? REF 0", "CONS SUB HEAD ? NUM 1 REF 0",
            "CONS MUL NUM 1 HEAD TAIL ? REF 0", "TAIL CONS HEAD ? REF 0"};
        for (String place : places) {
            for (int name = 2; name < 8; name++) {
                String definition = "DEF 1 " + place.replace("?", "REF " + name);
                due(UNDEFINED, ONES, definition);
                due(UNDEFINED, definition, ONES);
                due(ACCEPTED, ONES, definition, "DEF " + name + " REF 0");
            }
            due(UNDEFINED, "DEF 1 " + place.replace("?", "REF 0"));
        }
    }

    private static void undefinedFirst() {
        due(UNDEFINED, "DEF 0 ZIPADD REF 0 REF 1");
        due(UNDEFINED, "DEF 0 ZIPADD REF 1 REF 0");
        due(UNDEFINED, "DEF 0 REF 0", "DEF 1 REF 2");
        due(UNDEFINED, "DEF 1 CONS NUM 1 REF 2", "DEF 0 TAIL REF 0");
        due(UNGUARDED, "DEF 0 ZIPADD REF 0 REF 1", "DEF 1 CONS NUM 1 REF 1");
    }

    private static void unguarded() {
        due(UNGUARDED, "DEF 0 REF 0");
        due(UNGUARDED, "DEF 0 TAIL REF 0");
        due(UNGUARDED, "DEF 0 CONS NUM 1 TAIL TAIL REF 0");
        due(UNGUARDED, "DEF 0 CONS HEAD REF 0 REF 0");
        due(UNGUARDED, "DEF 0 ZIPADD CONS NUM 1 REF 0 REF 0");
        due(UNGUARDED, "DEF 0 ZIPADD REF 0 CONS NUM 1 REF 0");
        // The greatest weight, not the weight of some walk: one way round loses, the other does not.
        due(UNGUARDED, "DEF 0 ZIPADD CONS NUM 1 CONS NUM 1 REF 1 REF 2", "DEF 1 REF 0", "DEF 2 REF 0");
        due(UNGUARDED, "DEF 0 CONS NUM 1 CONS NUM 1 REF 1", "DEF 1 TAIL TAIL TAIL REF 0");
    }

    /** Rings through every number of names: a CONS for each TAIL gives 0, one CONS more gives -1. */
    private static void weightZero() {
        for (int names = 1; names <= 8; names++) {
            ProductiveStreams even = new ProductiveStreams(names, 96);
            ProductiveStreams less = new ProductiveStreams(names, 96);
            ProductiveStreams more = new ProductiveStreams(names, 96);
            for (int x = 0; x < names; x++) {
                String next = "REF " + (x + 1) % names;
                String balanced = x % 2 == 0 ? "CONS NUM 1 TAIL " : "TAIL CONS NUM 1 ";
                String last = x == names - 1 ? "CONS NUM 1 " : "";
                String dropped = x == names - 1 ? "TAIL " : "";
                Check.enter(even, "DEF " + x + " " + balanced + next);
                Check.enter(less, "DEF " + x + " " + balanced + last + next);
                Check.enter(more, "DEF " + x + " " + balanced + dropped + next);
            }
            Check.due("guard(0, 0) of the even ring of " + names, even.guard(0, 0), 0);
            Check.due("guard(0, 0) of the lesser ring of " + names, less.guard(0, 0), -1);
            Check.due("guard(0, 0) of the greater ring of " + names, more.guard(0, 0), 1);
            Check.due("verdict() of the even ring of " + names, even.verdict(), UNGUARDED);
            Check.due("verdict() of the lesser ring of " + names, less.verdict(), ACCEPTED);
            Check.due("verdict() of the greater ring of " + names, more.verdict(), UNGUARDED);
        }
    }

    private static void anyName() {
        for (int names = 1; names <= 8; names++) {
            for (int bad = 0; bad < names; bad++) {
                ProductiveStreams s = new ProductiveStreams(names, 96);
                for (int x = 0; x < names; x++) {
                    Check.enter(s, "DEF " + x + (x == bad ? " REF " : " CONS NUM 1 REF ") + x);
                }
                Check.due("verdict() with " + bad + " unguarded of " + names, s.verdict(), UNGUARDED);
            }
        }
        // Not all names need be defined.
        due(UNGUARDED, "DEF 7 REF 7");
        due(UNGUARDED, "DEF 5 REF 6", "DEF 6 REF 5");
    }

    private static void accepted() {
        due(ACCEPTED, ONES);
        due(1, ACCEPTED, ONES);
        // Weights of 0 and more between different names are no harm.
        due(ACCEPTED, ONES, "DEF 1 REF 0", "DEF 2 TAIL REF 1", "DEF 3 TAIL TAIL TAIL REF 2");
        due(ACCEPTED, "DEF 7 CONS NUM 1 REF 7", "DEF 6 ZIPADD REF 7 TAIL REF 7");
        due(ACCEPTED, "DEF 0 CONS NUM 1 CONS NUM 1 ZIPADD REF 0 TAIL REF 0");
        due(ACCEPTED, "DEF 0 CONS NUM 1 CONS HEAD REF 0 REF 0");
        ProductiveStreams all = new ProductiveStreams(8, 96);
        for (int x = 7; x >= 0; x--) {
            Check.enter(all, "DEF " + x + " CONS NUM 1 REF " + (x * 3 + 1) % 8);
        }
        Check.due("verdict() of eight guarded names", all.verdict(), ACCEPTED);
    }

    private static void changesNothing() {
        String[][] systems = {{}, {"DEF 0 CONS"}, {ONES}, {"DEF 0 REF 1"}, {"DEF 0 REF 0"}, {ONES, "DEF 1 ZIPADD REF 0 CONS ADD"}};
        int[] want = {EMPTY, OPEN, ACCEPTED, UNDEFINED, UNGUARDED, OPEN};
        for (int k = 0; k < systems.length; k++) {
            Edges.dueNoChange("verdict()", Edges.state(3, 40, systems[k]), ProductiveStreams::verdict, want[k]);
        }
        for (int k = 0; k < 3; k++) {
            int outcome = k;
            Edges.dueNoChange("verdict() after eval", () -> Edges.withResults()[outcome], ProductiveStreams::verdict, UNGUARDED);
        }
    }
}

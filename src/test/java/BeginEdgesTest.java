/** The boundary cases of promise 3, a test for each sentence. */
final class BeginEdgesTest {
    private static final String ONES = "DEF 0 CONS NUM 1 REF 0";

    public static void main(String[] args) {
        Edges.sentence("3: refused if a definition is open", BeginEdgesTest::open);
        Edges.sentence("3: refused if name < 0", BeginEdgesTest::negative);
        Edges.sentence("3: refused if name >= NAMES", BeginEdgesTest::tooLarge);
        Edges.sentence("3: refused if name is already defined", BeginEdgesTest::alreadyDefined);
        Edges.sentence("3: refused if used() == CELLS", BeginEdgesTest::full);
        Edges.sentence("3: not refused at the last cell", BeginEdgesTest::lastCell);
        Edges.sentence("3: the first that holds refuses the call, which answers false and changes nothing", BeginEdgesTest::severalReasons);
        Edges.sentence("3: begin appends the cell (DEF, name) at position used()", BeginEdgesTest::appends);
        Edges.sentence("3: opens the definition with the single pending slot STREAM", BeginEdgesTest::opens);
        Edges.sentence("3: name is not yet defined while its definition is open", BeginEdgesTest::notYetDefined);
        Edges.sentence("3: value(), faultName(), faultIndex() do not change", BeginEdgesTest::resultsStay);
        Edges.sentence("3: the other cells and the other definitions do not change", BeginEdgesTest::othersStay);
        Check.end();
    }

    private static void dueRefused(int name, int names, int cells, String... definitions) {
        String call = "begin(" + name + ") after " + String.join("; ", definitions);
        Edges.dueRefused(call, Edges.state(names, cells, definitions), s -> s.begin(name));
        Edges.dueRefused(call + " with eval(0, 5) on the way", Edges.evaluated(names, cells, definitions), s -> s.begin(name));
    }

    /** The open name itself among the names: it is neither out of range nor defined. */
    private static void open() {
        for (int name = 1; name < 4; name++) {
            dueRefused(name, 4, 40, ONES, "DEF 2");
            dueRefused(name, 4, 40, ONES, "DEF 2 ZIPADD CONS");
            dueRefused(name, 4, 40, ONES, "DEF 2 CONS NUM 4");
        }
        dueRefused(0, 1, 16, "DEF 0");
        dueRefused(7, 8, 96, "DEF 7");
    }

    private static void negative() {
        int[] bad = {-1, -2, -7, -8, -256, -65536, Edges.LEAST + 1, Edges.LEAST};
        for (int name : bad) {
            for (int names = 1; names <= 8; names++) {
                dueRefused(name, names, 16);
                dueRefused(name, names, 40, ONES);
            }
        }
        Check.due("begin(0)", new ProductiveStreams(1, 16).begin(0), true);
    }

    private static void tooLarge() {
        for (int names = 1; names <= 8; names++) {
            int[] bad = {names, names + 1, 8, 9, 32, 96, 256, 65536, Edges.MOST - 1, Edges.MOST};
            for (int name : bad) {
                dueRefused(name, names, 16);
                dueRefused(name, names, 40, ONES);
            }
            Check.due("begin(" + (names - 1) + ") of " + names + " names", new ProductiveStreams(names, 16).begin(names - 1), true);
        }
    }

    private static void alreadyDefined() {
        dueRefused(0, 1, 16, ONES);
        dueRefused(0, 8, 96, ONES);
        dueRefused(7, 8, 96, "DEF 7 REF 7");
        for (int name = 0; name < 3; name++) {
            dueRefused(name, 4, 40, ONES, "DEF 1 REF 3", "DEF 2 TAIL REF 1");
        }
        ProductiveStreams s = Check.system(4, 40, ONES, "DEF 1 REF 3", "DEF 2 TAIL REF 1");
        Check.due("begin of the one name that is not defined", s.begin(3), true);
        ProductiveStreams again = Check.system(4, 40, ONES);
        again.reset();
        Check.due("begin of a name defined before reset", again.begin(0), true);
    }

    private static String filling(int cells) {
        return "DEF 0 " + Check.repeat("TAIL", cells - 2) + "REF 0";
    }

    private static void full() {
        int[] sizes = {16, 17, 50, 95, 96};
        for (int cells : sizes) {
            for (int name = 1; name < 4; name++) {
                dueRefused(name, 4, cells, filling(cells));
            }
            dueRefused(3, 4, cells, ONES, "DEF 1 " + Check.repeat("TAIL", cells - 6) + "REF 0");
        }
    }

    private static void lastCell() {
        int[] sizes = {16, 17, 50, 95, 96};
        for (int cells : sizes) {
            ProductiveStreams s = Check.system(4, cells, filling(cells - 1));
            Check.due("used() before the last of " + cells + " cells", s.used(), cells - 1);
            Check.due("begin(3) at the last of " + cells + " cells", s.begin(3), true);
            Check.due("used() after begin(3)", s.used(), cells);
            Check.due("the last cell's kind", s.cellKind(cells - 1), ProductiveStreams.DEF);
            Check.due("the last cell's value", s.cellValue(cells - 1), 3);
            Check.due("openName() after begin(3)", s.openName(), 3);
            Check.due("pending() after begin(3)", s.pending(), 1);
            Check.due("slot(0) after begin(3)", s.slot(0), ProductiveStreams.SORT_STREAM);
        }
    }

    private static void severalReasons() {
        int[] bad = {-1, 4, Edges.LEAST, Edges.MOST};
        String fullAndOpen = "DEF 1 " + Check.repeat("ZIPADD", 11);
        for (int name : bad) {
            dueRefused(name, 4, 40, ONES, "DEF 1 TAIL");
            dueRefused(name, 4, 16, filling(16));
            dueRefused(name, 4, 16, ONES, fullAndOpen);
        }
        dueRefused(0, 4, 40, ONES, "DEF 1 TAIL");
        dueRefused(0, 4, 16, filling(16));
        for (int name = 0; name < 4; name++) {
            dueRefused(name, 4, 16, ONES, fullAndOpen);
        }
    }

    private static void appends() {
        for (int name = 0; name < 8; name++) {
            ProductiveStreams s = new ProductiveStreams(8, 96);
            Check.due("begin(" + name + ")", s.begin(name), true);
            Check.due("used()", s.used(), 1);
            Check.due("cellKind(0)", s.cellKind(0), ProductiveStreams.DEF);
            Check.due("cellValue(0)", s.cellValue(0), name);
        }
        ProductiveStreams t = new ProductiveStreams(8, 96);
        for (int name = 7; name >= 0; name--) {
            int at = t.used();
            Check.due("begin(" + name + ")", t.begin(name), true);
            Check.due("used() after begin(" + name + ")", t.used(), at + 1);
            Check.due("cellKind(" + at + ")", t.cellKind(at), ProductiveStreams.DEF);
            Check.due("cellValue(" + at + ")", t.cellValue(at), name);
            Check.enter(t, "CONS NUM 1 REF 0");
        }
    }

    private static void opens() {
        for (int name = 0; name < 8; name++) {
            // Another definition before it, with many slots that were pending.
            ProductiveStreams s = Check.system(8, 96, "DEF " + (name + 1) % 8 + " CONS ADD ADD NUM 1 NUM 1 NUM 1 ZIPADD ZIPADD REF 0 REF 0 REF 0");
            Check.due("begin(" + name + ")", s.begin(name), true);
            Check.due("openName()", s.openName(), name);
            Check.due("pending()", s.pending(), 1);
            Check.due("slot(0)", s.slot(0), ProductiveStreams.SORT_STREAM);
            Check.due("slot(1)", s.slot(1), ProductiveStreams.SORT_NONE);
            Check.due("slot(-1)", s.slot(-1), ProductiveStreams.SORT_NONE);
        }
    }

    private static void notYetDefined() {
        for (int name = 0; name < 8; name++) {
            ProductiveStreams s = new ProductiveStreams(8, 96);
            s.begin(name);
            Check.due("defined(" + name + ") when begun", s.defined(name), false);
            Check.enter(s, "ZIPADD CONS NUM 1 REF 0");
            Check.due("defined(" + name + ") before its last token", s.defined(name), false);
            Check.enter(s, "REF 0");
            Check.due("defined(" + name + ") after its last token", s.defined(name), true);
        }
    }

    private static void resultsStay() {
        for (int outcome = 0; outcome < 3; outcome++) {
            ProductiveStreams s = Edges.withResults()[outcome];
            String before = Edges.RESULTS[outcome];
            Check.due("begin(3)", s.begin(3), true);
            Check.due("the result after begin(3)", Check.result(s), before);
        }
    }

    private static void othersStay() {
        String[] definitions = {"DEF 5 CONS NUM -9 CONS HEAD TAIL REF 5 REF 0", "DEF 0 ZIPSUB REF 5 REF 3", "DEF 7 TAIL REF 7"};
        String want = Edges.cellsOf(String.join(" ", definitions));
        for (int name = 1; name < 5; name++) {
            ProductiveStreams s = Check.system(8, 96, definitions);
            int used = s.used();
            Check.due("begin(" + name + ")", s.begin(name), true);
            Check.due("the cells before begin(" + name + ")", Edges.cells(s, used), want);
            for (int x = 0; x < 8; x++) {
                Check.due("defined(" + x + ") after begin", s.defined(x), x == 5 || x == 0 || x == 7);
            }
            Check.due("guard(5, 5) after begin", s.guard(5, 5), 0);
            Check.due("guard(5, 0) after begin", s.guard(5, 0), -2);
            Check.due("guard(0, 3) after begin", s.guard(0, 3), 0);
            Check.due("guard(7, 7) after begin", s.guard(7, 7), 8);
        }
    }
}

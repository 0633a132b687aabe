import java.util.function.Supplier;

/** The boundary cases of promise 6, a test for each sentence. */
final class NamesEdgesTest {
    public static void main(String[] args) {
        Edges.sentence("6: openName() is -1 when none is open", NamesEdgesTest::noneOpen);
        Edges.sentence("6: openName() is the name of the open definition", NamesEdgesTest::open);
        Edges.sentence("6: defined(name) is false for negative names", NamesEdgesTest::negative);
        Edges.sentence("6: defined(name) is false for names at or above NAMES", NamesEdgesTest::tooLarge);
        Edges.sentence("6: defined(name) is true iff the definition of name is closed", NamesEdgesTest::closed);
        Edges.sentence("6: neither changes anything", NamesEdgesTest::changeNothing);
        Check.end();
    }

    private static void noneOpen() {
        ProductiveStreams s = new ProductiveStreams(3, 16);
        Check.due("openName() when new", s.openName(), -1);
        s.begin(-1);
        Check.due("openName() after begin(-1)", s.openName(), -1);
        s.begin(3);
        Check.due("openName() after begin(3)", s.openName(), -1);
        s.token(ProductiveStreams.REF, 0);
        Check.due("openName() after a refused token", s.openName(), -1);
        Check.enter(s, "DEF 0 REF 0");
        Check.due("openName() after the end of a definition", s.openName(), -1);
        s.begin(0);
        Check.due("openName() after begin of a defined name", s.openName(), -1);
        Check.enter(s, "DEF 2 " + Check.repeat("TAIL", 12) + "REF 0");
        Check.due("openName() when full", s.openName(), -1);
        s.begin(1);
        Check.due("openName() after begin when full", s.openName(), -1);
        s.reset();
        Check.due("openName() after reset", s.openName(), -1);
        Check.enter(s, "DEF 2 ZIPADD");
        s.reset();
        Check.due("openName() after reset of an open definition", s.openName(), -1);
    }

    private static void open() {
        for (int names = 1; names <= 8; names++) {
            for (int name = 0; name < names; name++) {
                ProductiveStreams s = Check.system(names, 16, "DEF " + name);
                Check.due("openName() after begin(" + name + ")", s.openName(), name);
                Check.enter(s, "ZIPADD REF 0 CONS NUM 2");
                Check.due("openName() before the end of " + name, s.openName(), name);
                s.begin((name + 1) % names);
                s.begin(-1);
                s.token(ProductiveStreams.NUM, 0);
                s.token(ProductiveStreams.DEF, 0);
                Check.due("openName() after refused calls", s.openName(), name);
            }
        }
    }

    private static ProductiveStreams allDefined(int names) {
        ProductiveStreams s = new ProductiveStreams(names, 16);
        for (int name = 0; name < names; name++) {
            Check.enter(s, "DEF " + name + " REF " + name);
        }
        return s;
    }

    private static void negative() {
        for (int names = 1; names <= 8; names++) {
            ProductiveStreams s = allDefined(names);
            for (int name = -1; name >= -300; name--) {
                Check.due("defined(" + name + ") of " + names, s.defined(name), false);
            }
            for (int k = 0; k < 10; k++) {
                int least = Edges.LEAST + k;
                Check.due("defined(" + least + ") of " + names, s.defined(least), false);
            }
        }
    }

    private static void tooLarge() {
        for (int names = 1; names <= 8; names++) {
            ProductiveStreams s = allDefined(names);
            for (int name = names; name <= 300; name++) {
                Check.due("defined(" + name + ") of " + names, s.defined(name), false);
            }
            int[] far = {65536, 65537, 1 << 24, 1 << 30, Edges.MOST - 7, Edges.MOST - 1, Edges.MOST};
            for (int name : far) {
                Check.due("defined(" + name + ") of " + names, s.defined(name), false);
            }
            Check.due("defined(" + (names - 1) + ") of " + names, s.defined(names - 1), true);
            Check.due("defined(0) of " + names, s.defined(0), true);
        }
    }

    private static void closed() {
        ProductiveStreams s = new ProductiveStreams(8, 40);
        for (int name = 7; name >= 0; name--) {
            dueDefinedFrom(s, name + 1, "before begin(" + name + ")");
            s.begin(name);
            dueDefinedFrom(s, name + 1, "after begin(" + name + ")");
            Check.enter(s, "CONS NUM 1");
            dueDefinedFrom(s, name + 1, "before the end of " + name);
            Check.enter(s, "REF 0");
            dueDefinedFrom(s, name, "after the end of " + name);
        }
        s.reset();
        dueDefinedFrom(s, 8, "after reset");
    }

    private static void dueDefinedFrom(ProductiveStreams s, int least, String when) {
        for (int x = 0; x < 8; x++) {
            Check.due("defined(" + x + ") " + when, s.defined(x), x >= least);
        }
    }

    private static void changeNothing() {
        String[] words = {"DEF 1", "DEF 1 ZIPADD CONS MUL", "DEF 1 REF 0", "DEF 2 REF 2"};
        int[] open = {1, 1, -1, -1};
        int[] names = {Edges.LEAST, -1, 0, 1, 2, 3, 8, Edges.MOST};
        for (int w = 0; w < words.length; w++) {
            Supplier<ProductiveStreams> state = Edges.evaluated(3, 40, "DEF 0 CONS NUM 1 REF 0", words[w]);
            Edges.dueNoChange("openName()", state, ProductiveStreams::openName, open[w]);
            for (int name : names) {
                boolean want = name == 0 || w == 2 && name == 1 || w == 3 && name == 2;
                Edges.dueNoChange("defined(" + name + ")", state, s -> s.defined(name) ? 1 : 0, want ? 1 : 0);
            }
        }
    }
}

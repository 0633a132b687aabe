import java.util.function.Supplier;

/** The boundary cases of promise 7, a test for each sentence. */
final class CellsEdgesTest {
    public static void main(String[] args) {
        Edges.sentence("7: used() is the number of cells appended since construction or the last reset", CellsEdgesTest::counts);
        Edges.sentence("7: used() is between 0 and CELLS", CellsEdgesTest::between);
        Edges.sentence("7: cellKind(k) is a number in 1..12", CellsEdgesTest::kinds);
        Edges.sentence("7: cellKind(k) is 0 if k < 0", () -> negative(true));
        Edges.sentence("7: cellKind(k) is 0 if k >= used()", () -> tooLarge(true));
        Edges.sentence("7: cellValue(k) is the name for a DEF cell, the literal for NUM, the referred name for REF", CellsEdgesTest::values);
        Edges.sentence("7: cellValue(k) is 0 for every other kind", CellsEdgesTest::noValues);
        Edges.sentence("7: cellValue(k) is 0 if k < 0", () -> negative(false));
        Edges.sentence("7: cellValue(k) is 0 if k >= used()", () -> tooLarge(false));
        Edges.sentence("7: none of these changes anything", CellsEdgesTest::changeNothing);
        Check.end();
    }

    private static void counts() {
        ProductiveStreams s = new ProductiveStreams(2, 16);
        Check.due("used() when new", s.used(), 0);
        for (int round = 0; round < 3; round++) {
            s.begin(1);
            Check.due("used() after begin", s.used(), 1);
            s.begin(1);
            s.begin(0);
            s.begin(-1);
            s.token(ProductiveStreams.NUM, 0);
            s.token(ProductiveStreams.DEF, 0);
            s.token(ProductiveStreams.REF, 2);
            Check.due("used() after refused calls", s.used(), 1);
            s.token(ProductiveStreams.REF, 1);
            Check.due("used() after the end of a definition", s.used(), 2);
            s.token(ProductiveStreams.REF, 1);
            s.eval(1, 0);
            s.verdict();
            s.guard(1, 1);
            Check.due("used() after calls that append nothing", s.used(), 2);
            s.reset();
            Check.due("used() after reset", s.used(), 0);
        }
    }

    private static void between() {
        for (int cells = 16; cells <= 96; cells++) {
            ProductiveStreams s = new ProductiveStreams(2, cells);
            s.begin(0);
            for (int k = 1; k < cells; k++) {
                Check.due("used()", s.used(), k);
                s.token(ProductiveStreams.TAIL, 0);
            }
            for (int k = 0; k < 3; k++) {
                Check.due("used() of " + cells + " when full", s.used(), cells);
                s.token(ProductiveStreams.TAIL, 0);
                s.token(ProductiveStreams.REF, 0);
                s.begin(1);
            }
            Check.due("cellKind of the last cell", s.cellKind(cells - 1), ProductiveStreams.TAIL);
        }
    }

    private static void kinds() {
        ProductiveStreams s = Check.system(2, 96, "DEF 0 CONS ADD NUM 1 SUB HEAD REF 0 MUL NUM 2 NUM 3 TAIL ZIPADD REF 0 ZIPSUB REF 0 ZIPMUL REF 0 REF 0");
        int[] want = {12, 6, 3, 1, 4, 2, 11, 5, 1, 1, 7, 8, 11, 9, 11, 10, 11, 11};
        Check.due("used()", s.used(), want.length);
        for (int k = 0; k < want.length; k++) {
            Check.due("cellKind(" + k + ")", s.cellKind(k), want[k]);
        }
    }

    private static void values() {
        int[] ints = {0, 1, -1, 12, 255, -256, Edges.LEAST, Edges.LEAST + 1, Edges.MOST - 1, Edges.MOST};
        for (int literal : ints) {
            for (int name = 0; name < 8; name++) {
                int other = 7 - name;
                ProductiveStreams s = Check.system(8, 16, "DEF " + name + " CONS NUM " + literal + " REF " + other);
                Check.due("cellValue(0) of DEF", s.cellValue(0), name);
                Check.due("cellValue(2) of NUM", s.cellValue(2), literal);
                Check.due("cellValue(3) of REF", s.cellValue(3), other);
            }
        }
    }

    /** Cells that held literals and names before the reset, and tokens that are given a value in vain. */
    private static void noValues() {
        int[] given = {1, -1, 7, 12, Edges.LEAST, Edges.MOST};
        int[] kinds = {8, 9, 10, 7, 6, 3, 4, 5, 2};
        for (int value : given) {
            ProductiveStreams s = Check.system(8, 40, "DEF 7 " + Check.repeat("CONS NUM 77", 10) + "REF 7");
            s.reset();
            s.begin(0);
            for (int kind : kinds) {
                s.token(kind, value);
            }
            for (int k = 0; k < kinds.length; k++) {
                Check.due("cellKind(" + (k + 1) + ")", s.cellKind(k + 1), kinds[k]);
                Check.due("cellValue(" + (k + 1) + ") of kind " + kinds[k] + " given " + value, s.cellValue(k + 1), 0);
            }
        }
    }

    private static int read(ProductiveStreams s, boolean kind, int k) {
        return kind ? s.cellKind(k) : s.cellValue(k);
    }

    private static ProductiveStreams[] someOnes() {
        ProductiveStreams reset = Check.system(8, 96, "DEF 7 " + Check.repeat("CONS NUM 77", 47) + "REF 7");
        reset.reset();
        ProductiveStreams shorter = Check.system(8, 96, "DEF 7 " + Check.repeat("CONS NUM 77", 47) + "REF 7");
        shorter.reset();
        Check.enter(shorter, "DEF 7 CONS NUM 77");
        return new ProductiveStreams[] {new ProductiveStreams(8, 96), reset, shorter,
            Check.system(8, 16, "DEF 7 " + Check.repeat("CONS NUM 77", 7) + "REF 7"),
            Check.system(8, 96, "DEF 7 " + Check.repeat("CONS NUM 77", 47) + "REF 7"),
            Check.system(8, 96, "DEF 7"), Check.system(8, 96, "DEF 7 REF 7", "DEF 6 CONS NUM -1")};
    }

    private static void negative(boolean kind) {
        for (ProductiveStreams s : someOnes()) {
            for (int k = -1; k >= -300; k--) {
                Check.due("cell " + k, read(s, kind, k), 0);
            }
            for (int k = 0; k < 100; k++) {
                int least = Edges.LEAST + k;
                Check.due("cell " + least, read(s, kind, least), 0);
            }
        }
    }

    private static void tooLarge(boolean kind) {
        for (ProductiveStreams s : someOnes()) {
            for (int k = s.used(); k <= 300; k++) {
                Check.due("cell " + k + " of " + s.used(), read(s, kind, k), 0);
            }
            for (int k = 0; k < 100; k++) {
                int most = Edges.MOST - k;
                Check.due("cell " + most, read(s, kind, most), 0);
            }
            if (s.used() > 0) {
                Check.due("the last cell is not 0", read(s, kind, s.used() - 1) != 0, true);
            }
        }
    }

    private static void changeNothing() {
        String[] words = {"DEF 1", "DEF 1 ZIPADD CONS MUL", "DEF 1 REF 0"};
        int[] used = {5, 8, 6};
        int[] ks = {Edges.LEAST, -1, 8, 39, 40, 95, 96, Edges.MOST};
        for (int w = 0; w < words.length; w++) {
            Supplier<ProductiveStreams> state = Edges.evaluated(2, 40, "DEF 0 CONS NUM 1 REF 0", words[w]);
            Edges.dueNoChange("used()", state, ProductiveStreams::used, used[w]);
            Edges.dueNoChange("cellKind(0)", state, s -> s.cellKind(0), ProductiveStreams.DEF);
            Edges.dueNoChange("cellValue(2)", state, s -> s.cellValue(2), 1);
            Edges.dueNoChange("cellKind(4)", state, s -> s.cellKind(4), ProductiveStreams.DEF);
            Edges.dueNoChange("cellValue(4)", state, s -> s.cellValue(4), 1);
            for (int k : ks) {
                Edges.dueNoChange("cellKind(" + k + ")", state, s -> s.cellKind(k), 0);
                Edges.dueNoChange("cellValue(" + k + ")", state, s -> s.cellValue(k), 0);
            }
        }
    }
}

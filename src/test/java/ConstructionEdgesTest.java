/** The boundary cases of promise 1, a test for each sentence. */
final class ConstructionEdgesTest {
    private static final int LEAST = Edges.LEAST;
    private static final int MOST = Edges.MOST;

    public static void main(String[] args) {
        Edges.sentence("1: names: below 1 becomes 1", () -> dueNames(1, 0, -1, -2, -7, -8, -256, -65535, LEAST + 3, LEAST + 1, LEAST));
        Edges.sentence("1: names: above 8 becomes 8", () -> dueNames(8, 9, 10, 16, 255, 256 + 3, 65536 + 3, MOST - 1, MOST));
        Edges.sentence("1: names: otherwise it is taken as given", ConstructionEdgesTest::namesAsGiven);
        Edges.sentence("1: cells: below 16 becomes 16", () -> dueCells(16, 15, 14, 8, 1, 0, -1, -16, -17, -96, -236, LEAST + 50, LEAST));
        Edges.sentence("1: cells: above 96 becomes 96", () -> dueCells(96, 97, 98, 128, 192, 256 + 20, 65536 + 20, MOST - 1, MOST));
        Edges.sentence("1: cells: otherwise it is taken as given", ConstructionEdgesTest::cellsAsGiven);
        Edges.sentence("1: any int is allowed for both arguments", ConstructionEdgesTest::bothArguments);
        Edges.sentence("1: NAMES and CELLS are fixed for the life of the object", ConstructionEdgesTest::fixed);
        Edges.sentence("1: the object starts with used() 0", ConstructionEdgesTest::startsWithoutCells);
        Edges.sentence("1: the object starts with defined(x) false for every x", ConstructionEdgesTest::startsWithoutDefinitions);
        Edges.sentence("1: the object starts with none open", ConstructionEdgesTest::startsWithNoneOpen);
        Edges.sentence("1: the object starts with value() 0", ConstructionEdgesTest::startsWithValue);
        Edges.sentence("1: the object starts with faultName() -1 and faultIndex() -1", ConstructionEdgesTest::startsWithoutFault);
        Check.end();
    }

    private static void dueNames(int want, int... given) {
        for (int names : given) {
            ProductiveStreams s = new ProductiveStreams(names, 40);
            Check.due("names taken, names given as " + names, Edges.namesTaken(s), Edges.firstNames(want));
        }
    }

    private static void dueCells(int want, int... given) {
        for (int cells : given) {
            Check.due("cells taken, cells given as " + cells, Edges.cellsTaken(new ProductiveStreams(3, cells)), want);
        }
    }

    private static void namesAsGiven() {
        for (int names = 1; names <= 8; names++) {
            dueNames(names, names);
        }
    }

    private static void cellsAsGiven() {
        for (int cells = 16; cells <= 96; cells++) {
            dueCells(cells, cells);
        }
    }

    private static void bothArguments() {
        int[] ints = {LEAST, LEAST + 1, -97, -1, 0, 1, 2, 7, 8, 9, 15, 16, 17, 95, 96, 97, MOST - 1, MOST};
        for (int names : ints) {
            for (int cells : ints) {
                int wantNames = names < 1 ? 1 : names > 8 ? 8 : names;
                int wantCells = cells < 16 ? 16 : cells > 96 ? 96 : cells;
                String what = "of new(" + names + ", " + cells + ")";
                Check.due("names " + what, Edges.namesTaken(new ProductiveStreams(names, cells)), Edges.firstNames(wantNames));
                Check.due("cells " + what, Edges.cellsTaken(new ProductiveStreams(names, cells)), wantCells);
            }
        }
    }

    private static void fixed() {
        ProductiveStreams s = new ProductiveStreams(5, 33);
        ProductiveStreams other = new ProductiveStreams(2, 70);
        for (int round = 0; round < 4; round++) {
            Check.due("cells in round " + round, Edges.cellsTaken(s), 33);
            Check.due("cells of the other in round " + round, Edges.cellsTaken(other), 70);
            s.reset();
            other.reset();
            Check.due("names in round " + round, Edges.namesTaken(s), Edges.firstNames(5));
            Check.due("names of the other in round " + round, Edges.namesTaken(other), Edges.firstNames(2));
            s.eval(4, 31);
            other.eval(1, 31);
            s.reset();
            other.reset();
        }
    }

    private static ProductiveStreams[] newOnes() {
        int[] ints = {LEAST, 0, 1, 5, 8, 16, 50, 96, MOST};
        ProductiveStreams[] made = new ProductiveStreams[ints.length * ints.length];
        for (int k = 0; k < made.length; k++) {
            made[k] = new ProductiveStreams(ints[k / ints.length], ints[k % ints.length]);
        }
        return made;
    }

    private static void startsWithoutCells() {
        for (ProductiveStreams s : newOnes()) {
            Check.due("used() of a new object", s.used(), 0);
            for (int k = -1; k <= 96; k++) {
                Check.due("cellKind(" + k + ") of a new object", s.cellKind(k), 0);
                Check.due("cellValue(" + k + ") of a new object", s.cellValue(k), 0);
            }
        }
    }

    private static void startsWithoutDefinitions() {
        for (ProductiveStreams s : newOnes()) {
            for (int x = -10; x <= 10; x++) {
                Check.due("defined(" + x + ") of a new object", s.defined(x), false);
            }
            for (int x : Edges.FAR) {
                Check.due("defined(" + x + ") of a new object", s.defined(x), false);
            }
        }
    }

    private static void startsWithNoneOpen() {
        for (ProductiveStreams s : newOnes()) {
            Check.due("openName() of a new object", s.openName(), -1);
            Check.due("pending() of a new object", s.pending(), 0);
            Check.due("begin(0) of a new object", s.begin(0), true);
        }
    }

    private static void startsWithValue() {
        for (ProductiveStreams s : newOnes()) {
            Check.due("value() of a new object", s.value(), 0);
        }
    }

    private static void startsWithoutFault() {
        for (ProductiveStreams s : newOnes()) {
            Check.due("faultName() of a new object", s.faultName(), -1);
            Check.due("faultIndex() of a new object", s.faultIndex(), -1);
        }
    }
}

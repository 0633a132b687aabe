/** Promise 7. */
final class CellsTest {
    private static final int[] OUTSIDE = {-1, -96, 96, 97, Integer.MIN_VALUE, Integer.MAX_VALUE};

    public static void main(String[] args) {
        ProductiveStreams fresh = new ProductiveStreams(8, 96);
        dueCells(fresh, "new");

        ProductiveStreams s = Check.system(8, 96,
            "DEF 6 CONS ADD NUM -7 SUB NUM 2147483647 MUL NUM -2147483648 HEAD REF 5 TAIL REF 6",
            "DEF 5 ZIPADD REF 0 ZIPSUB REF 7 ZIPMUL REF 1");
        dueCells(s, "one closed, one open", 12, 6, 6, 0, 3, 0, 1, -7, 4, 0, 1, Integer.MAX_VALUE, 5, 0, 1, Integer.MIN_VALUE,
            2, 0, 11, 5, 7, 0, 11, 6, 12, 5, 8, 0, 11, 0, 9, 0, 11, 7, 10, 0, 11, 1);
        s.reset();
        dueCells(s, "reset");
        Check.enter(s, "DEF 3 TAIL");
        dueCells(s, "begun after reset", 12, 3, 7, 0);

        ProductiveStreams full = Check.system(8, 96, "DEF 7 " + Check.repeat("TAIL", 94) + "REF 7");
        Check.due("used() when full", full.used(), 96);
        Check.due("cellKind(95)", full.cellKind(95), ProductiveStreams.REF);
        Check.due("cellValue(95)", full.cellValue(95), 7);
        Check.due("cellKind(94)", full.cellKind(94), ProductiveStreams.TAIL);
        Check.due("cellKind(96)", full.cellKind(96), 0);
        Check.due("cellValue(96)", full.cellValue(96), 0);
        Check.end();
    }

    /** Pairs of kind and value, from cell 0 on. */
    private static void dueCells(ProductiveStreams s, String what, int... cells) {
        Check.due("used(), " + what, s.used(), cells.length / 2);
        for (int k = 0; k < 96; k++) {
            boolean in = 2 * k < cells.length;
            Check.due("cellKind(" + k + "), " + what, s.cellKind(k), in ? cells[2 * k] : 0);
            Check.due("cellValue(" + k + "), " + what, s.cellValue(k), in ? cells[2 * k + 1] : 0);
        }
        for (int k : OUTSIDE) {
            Check.due("cellKind(" + k + "), " + what, s.cellKind(k), 0);
            Check.due("cellValue(" + k + "), " + what, s.cellValue(k), 0);
        }
        Check.due("used() again, " + what, s.used(), cells.length / 2);
    }
}

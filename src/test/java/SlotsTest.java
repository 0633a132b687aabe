/** Promise 5. */
final class SlotsTest {
    private static final int[] OUTSIDE = {-1, -2, 96, 97, 1000, Integer.MIN_VALUE, Integer.MIN_VALUE + 1, Integer.MAX_VALUE};

    public static void main(String[] args) {
        noneOpen(new ProductiveStreams(2, 96), "new");
        noneOpen(Check.system(2, 96, "DEF 0 ZIPADD CONS NUM 1 REF 0 REF 1"), "closed");

        ProductiveStreams s = Check.system(2, 96, "DEF 0 ZIPADD CONS MUL");
        Check.due("pending()", s.pending(), 4);
        Check.due("slot(0)", s.slot(0), ProductiveStreams.SORT_ELEM);
        Check.due("slot(1)", s.slot(1), ProductiveStreams.SORT_ELEM);
        Check.due("slot(2)", s.slot(2), ProductiveStreams.SORT_STREAM);
        Check.due("slot(3)", s.slot(3), ProductiveStreams.SORT_STREAM);
        Check.due("slot(4)", s.slot(4), ProductiveStreams.SORT_NONE);
        outside(s);

        ProductiveStreams order = Check.system(2, 96, "DEF 0 CONS ADD HEAD CONS");
        int[] sorts = {1, 2, 1, 2};
        for (int k = 0; k < sorts.length; k++) {
            Check.due("slot(" + k + ") of four", order.slot(k), sorts[k]);
        }

        ProductiveStreams most = Check.system(2, 96, "DEF 0 " + Check.repeat("ZIPADD", 95));
        Check.due("pending() at its greatest", most.pending(), 96);
        for (int k = 0; k < 96; k++) {
            Check.due("slot(" + k + ") of 96", most.slot(k), ProductiveStreams.SORT_STREAM);
        }
        outside(most);
        ProductiveStreams elems = Check.system(2, 96, "DEF 0 CONS " + Check.repeat("ADD", 94));
        Check.due("pending() with most elements", elems.pending(), 96);
        Check.due("slot(94)", elems.slot(94), ProductiveStreams.SORT_ELEM);
        Check.due("slot(95)", elems.slot(95), ProductiveStreams.SORT_STREAM);
        Check.end();
    }

    private static void noneOpen(ProductiveStreams s, String what) {
        Check.due("pending() " + what, s.pending(), 0);
        for (int k = -2; k < 100; k++) {
            Check.due("slot(" + k + ") " + what, s.slot(k), ProductiveStreams.SORT_NONE);
        }
        outside(s);
    }

    private static void outside(ProductiveStreams s) {
        String before = Check.view(s);
        for (int k : OUTSIDE) {
            Check.due("slot(" + k + ")", s.slot(k), ProductiveStreams.SORT_NONE);
        }
        Check.due("the object after slot", Check.view(s), before);
    }
}

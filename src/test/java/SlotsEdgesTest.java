import java.util.function.Supplier;

/** The boundary cases of promise 5, a test for each sentence. */
final class SlotsEdgesTest {
    public static void main(String[] args) {
        Edges.sentence("5: pending() is 0 when none is open", SlotsEdgesTest::nonePending);
        Edges.sentence("5: slot(k) is SORT_NONE if k < 0", SlotsEdgesTest::negative);
        Edges.sentence("5: slot(k) is SORT_NONE if k >= pending()", SlotsEdgesTest::tooLarge);
        Edges.sentence("5: slot(k) is SORT_ELEM or SORT_STREAM for every k from 0 to pending() - 1", SlotsEdgesTest::everySlot);
        Edges.sentence("5: slot(k) is SORT_NONE for every k when no definition is open", SlotsEdgesTest::noneOpen);
        Edges.sentence("5: neither changes anything", SlotsEdgesTest::changeNothing);
        Check.end();
    }

    private static ProductiveStreams[] withoutOpen() {
        ProductiveStreams reset = Check.system(2, 96, "DEF 0 " + Check.repeat("ZIPADD", 95));
        reset.reset();
        ProductiveStreams refused = new ProductiveStreams(2, 96);
        refused.begin(2);
        refused.token(ProductiveStreams.ZIPADD, 0);
        // Closed after 48 slots were pending, the greatest number that 96 cells can close.
        ProductiveStreams wide = Check.system(2, 96, "DEF 0 " + Check.repeat("ZIPADD", 47) + Check.repeat("REF 0", 48));
        ProductiveStreams full = Check.system(2, 16, "DEF 0 " + Check.repeat("TAIL", 14) + "REF 0");
        full.begin(1);
        return new ProductiveStreams[] {new ProductiveStreams(2, 96), Check.system(2, 96, "DEF 1 REF 0"), reset, refused, wide, full};
    }

    private static void nonePending() {
        for (ProductiveStreams s : withoutOpen()) {
            Check.due("openName() with none open", s.openName(), -1);
            Check.due("pending() with none open", s.pending(), 0);
        }
    }

    private static void noneOpen() {
        for (ProductiveStreams s : withoutOpen()) {
            for (int k = -200; k <= 200; k++) {
                Check.due("slot(" + k + ") with none open", s.slot(k), ProductiveStreams.SORT_NONE);
            }
            for (int k : Edges.FAR) {
                Check.due("slot(" + k + ") with none open", s.slot(k), ProductiveStreams.SORT_NONE);
            }
        }
    }

    /** Objects with from 1 to 96 pending slots, which had 96 of them before. */
    private static ProductiveStreams withSlots(int count) {
        ProductiveStreams s = Check.system(2, 96, "DEF 1 " + Check.repeat("ZIPADD", 95));
        s.reset();
        Check.enter(s, "DEF 0 " + Check.repeat("ZIPADD", count - 1));
        return s;
    }

    private static void negative() {
        for (int count = 1; count <= 96; count++) {
            ProductiveStreams s = withSlots(count);
            for (int k = -1; k >= -200; k--) {
                Check.due("slot(" + k + ") of " + count, s.slot(k), ProductiveStreams.SORT_NONE);
            }
            for (int k = 0; k < 100; k++) {
                int least = Edges.LEAST + k;
                Check.due("slot(" + least + ") of " + count, s.slot(least), ProductiveStreams.SORT_NONE);
            }
        }
    }

    private static void tooLarge() {
        for (int count = 1; count <= 96; count++) {
            ProductiveStreams s = withSlots(count);
            for (int k = count; k <= count + 200; k++) {
                Check.due("slot(" + k + ") of " + count, s.slot(k), ProductiveStreams.SORT_NONE);
            }
            for (int k = 0; k < 100; k++) {
                int most = Edges.MOST - k;
                Check.due("slot(" + most + ") of " + count, s.slot(most), ProductiveStreams.SORT_NONE);
            }
        }
        // Slots that were filled are no longer there.
        ProductiveStreams s = Check.system(2, 96, "DEF 0 " + Check.repeat("ZIPADD", 30));
        for (int count = 31; count > 1; count--) {
            Check.due("pending()", s.pending(), count);
            Check.due("slot(" + count + ")", s.slot(count), ProductiveStreams.SORT_NONE);
            Check.due("slot(" + (count - 1) + ")", s.slot(count - 1), ProductiveStreams.SORT_STREAM);
            Check.enter(s, "REF 0");
        }
    }

    private static void everySlot() {
        for (int count = 1; count <= 96; count++) {
            ProductiveStreams s = withSlots(count);
            Check.due("pending() of " + count, s.pending(), count);
            for (int k = 0; k < count; k++) {
                Check.due("slot(" + k + ") of " + count, s.slot(k), ProductiveStreams.SORT_STREAM);
            }
        }
        for (int count = 2; count <= 96; count++) {
            ProductiveStreams s = Check.system(2, 96, "DEF 0 CONS " + Check.repeat("ADD", count - 2));
            Check.due("pending() of " + count, s.pending(), count);
            for (int k = 0; k < count; k++) {
                int want = k < count - 1 ? ProductiveStreams.SORT_ELEM : ProductiveStreams.SORT_STREAM;
                Check.due("slot(" + k + ") of " + count + " with elements", s.slot(k), want);
            }
        }
    }

    private static void changeNothing() {
        String[] words = {"DEF 1", "DEF 1 CONS", "DEF 1 ZIPADD ZIPADD CONS MUL", "DEF 1 REF 0", "DEF 1 CONS NUM 1"};
        int[] counts = {1, 2, 5, 0, 1};
        int[] first = {2, 1, 1, 0, 2};
        int[] ks = {Edges.LEAST, -1, 5, 95, 96, Edges.MOST};
        for (int w = 0; w < words.length; w++) {
            Supplier<ProductiveStreams> state = Edges.evaluated(2, 40, "DEF 0 CONS NUM 1 REF 0", words[w]);
            Edges.dueNoChange("pending()", state, ProductiveStreams::pending, counts[w]);
            Edges.dueNoChange("slot(0)", state, s -> s.slot(0), first[w]);
            for (int k : ks) {
                Edges.dueNoChange("slot(" + k + ")", state, s -> s.slot(k), 0);
            }
        }
    }
}

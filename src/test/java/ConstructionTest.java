/** Promise 1. */
final class ConstructionTest {
    private static final String FRESH = "used 0 cells pending 0 slots open -1 defined value 0 fault -1,-1";
    private static final int LEAST = Integer.MIN_VALUE;
    private static final int MOST = Integer.MAX_VALUE;

    public static void main(String[] args) {
        int[][] names = {{LEAST, 1}, {-1, 1}, {0, 1}, {1, 1}, {2, 2}, {3, 3}, {4, 4}, {5, 5}, {6, 6}, {7, 7}, {8, 8}, {9, 8}, {100, 8}, {MOST, 8}};
        for (int[] n : names) {
            dueNames(n[0], n[1]);
        }
        int[][] cells = {{LEAST, 16}, {-17, 16}, {0, 16}, {15, 16}, {16, 16}, {17, 17}, {50, 50}, {95, 95}, {96, 96}, {97, 96}, {1000, 96}, {MOST, 96}};
        for (int[] c : cells) {
            dueCells(c[0], c[1]);
        }
        dueNames(new ProductiveStreams(LEAST, MOST), "both extreme", 1);
        dueCells(new ProductiveStreams(MOST, LEAST), "both extreme", 16);
        Check.end();
    }

    private static void dueNames(int given, int want) {
        ProductiveStreams s = new ProductiveStreams(given, 96);
        dueNames(s, "names " + given, want);
    }

    private static void dueNames(ProductiveStreams s, String what, int want) {
        Check.due(what + ", new", Check.view(s), FRESH);
        int accepted = 0;
        for (int x = -2; x <= 12; x++) {
            if (s.begin(x)) {
                accepted++;
                Check.enter(s, "CONS NUM 1 REF 0");
            }
        }
        Check.due(what + ": names that begin takes", accepted, want);
        Check.due(what + ": the greatest name", s.defined(want - 1), true);
    }

    private static void dueCells(int given, int want) {
        ProductiveStreams s = new ProductiveStreams(1, given);
        dueCells(s, "cells " + given, want);
    }

    private static void dueCells(ProductiveStreams s, String what, int want) {
        Check.due(what + ", new", Check.view(s), FRESH);
        s.begin(0);
        for (int k = 0; k < 120; k++) {
            s.token(ProductiveStreams.TAIL, 0);
        }
        Check.due(what + ": cells taken", s.used(), want);
    }
}

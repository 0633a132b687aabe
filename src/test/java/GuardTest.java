/** Promise 9. */
final class GuardTest {
    private static final int NONE = ProductiveStreams.NONE;

    public static void main(String[] args) {
        offsets();
        severalEdges();
        longWalks();
        numberOfEdges();
        badNames();
        openAndUndefined();
        greatestWeights();
        Check.end();
    }

    private static void due(ProductiveStreams s, int a, int b, int want) {
        String before = Check.view(s);
        Check.due("guard(" + a + ", " + b + ")", s.guard(a, b), want);
        Check.due("the object after guard(" + a + ", " + b + ")", Check.view(s), before);
    }

    private static void dueOffset(String expression, int want) {
        ProductiveStreams s = Check.system(2, 40, "DEF 0 " + expression);
        Check.due("guard(0, 1) of " + expression, s.guard(0, 1), want);
        Check.due("guard(0, 0) of " + expression, s.guard(0, 0), NONE);
        Check.due("guard(1, 0) of " + expression, s.guard(1, 0), NONE);
        Check.due("guard(1, 1) of " + expression, s.guard(1, 1), NONE);
    }

    private static void offsets() {
        dueOffset("REF 1", 0);
        dueOffset("TAIL REF 1", 1);
        dueOffset("TAIL TAIL TAIL REF 1", 3);
        dueOffset("CONS NUM 1 REF 1", -1);
        dueOffset("CONS NUM 1 CONS NUM 1 REF 1", -2);
        dueOffset("CONS NUM 1 TAIL REF 1", 0);
        dueOffset("TAIL CONS NUM 1 REF 1", 0);
        dueOffset("ZIPADD REF 1 CONS NUM 1 REF 1", 0);
        dueOffset("ZIPSUB CONS NUM 1 REF 1 TAIL REF 1", 1);
        dueOffset("ZIPMUL CONS NUM 1 REF 1 CONS NUM 1 REF 1", -1);
        dueOffset("CONS NUM 1 ZIPADD CONS NUM 1 REF 1 CONS NUM 1 REF 1", -2);
        dueOffset("CONS NUM 1 ZIPMUL CONS NUM 1 REF 1 CONS NUM 1 CONS NUM 1 REF 1", -2);
        dueOffset("CONS HEAD REF 1 CONS NUM 1 REF 1", 0);
        dueOffset("CONS NUM 1 CONS HEAD REF 1 REF 1", -1);
        dueOffset("CONS HEAD TAIL REF 1 REF 1", 1);
        dueOffset("CONS HEAD CONS NUM 1 REF 1 REF 1", -1);
        dueOffset("CONS NUM 1 CONS ADD NUM 1 HEAD REF 1 REF 1", -1);
        dueOffset("CONS NUM 1 CONS SUB HEAD REF 1 NUM 1 REF 1", -1);
        dueOffset("CONS NUM 1 CONS MUL NUM 1 HEAD TAIL TAIL REF 1 REF 1", 1);
        dueOffset("TAIL CONS HEAD REF 1 CONS NUM 1 REF 1", 1);
    }

    private static void severalEdges() {
        ProductiveStreams s = Check.system(2, 40, "DEF 0 ZIPADD CONS NUM 1 CONS NUM 1 REF 0 CONS NUM 1 REF 0");
        due(s, 0, 0, -1);
        ProductiveStreams t = Check.system(2, 40, "DEF 0 ZIPADD CONS NUM 1 REF 0 CONS NUM 1 CONS NUM 1 REF 0", "DEF 1 CONS NUM 1 REF 0");
        due(t, 0, 0, -1);
        due(t, 1, 0, -1);
        due(t, 0, 1, NONE);
        due(t, 1, 1, NONE);
    }

    /** A ring through all names: the way round takes every edge that a walk may have. */
    private static void longWalks() {
        ProductiveStreams s = new ProductiveStreams(8, 96);
        for (int x = 0; x < 8; x++) {
            Check.enter(s, "DEF " + x + " CONS NUM 1 REF " + (x + 1) % 8);
        }
        for (int a = 0; a < 8; a++) {
            for (int b = 0; b < 8; b++) {
                due(s, a, b, a == b ? -8 : -((b - a + 8) % 8));
            }
        }
        ProductiveStreams chain = Check.system(4, 40, "DEF 3 TAIL REF 2", "DEF 1 TAIL REF 0", "DEF 2 TAIL REF 1");
        due(chain, 3, 0, 3);
        due(chain, 3, 1, 2);
        due(chain, 0, 3, NONE);
        due(chain, 3, 3, NONE);
    }

    /** With a growing cycle the greatest weight tells how many edges a walk may have. */
    private static void numberOfEdges() {
        for (int names = 1; names <= 8; names++) {
            ProductiveStreams s = Check.system(names, 40, "DEF 0 TAIL REF 0");
            due(s, 0, 0, names);
        }
        ProductiveStreams two = Check.system(5, 40, "DEF 0 TAIL REF 1", "DEF 1 REF 0");
        due(two, 0, 0, 2);
        due(two, 0, 1, 3);
        due(two, 1, 0, 2);
        due(two, 1, 1, 2);
        ProductiveStreams detour = Check.system(3, 40, "DEF 0 ZIPADD CONS NUM 1 REF 1 REF 2", "DEF 2 TAIL REF 1");
        due(detour, 0, 1, 1);
        ProductiveStreams shrink = Check.system(3, 40, "DEF 0 CONS NUM 1 REF 0");
        due(shrink, 0, 0, -1);
    }

    private static void badNames() {
        ProductiveStreams s = Check.system(3, 40, "DEF 0 REF 0", "DEF 1 REF 0", "DEF 2 ZIPADD REF 1 REF 0");
        int[] bad = {-1, 3, 4, 7, 8, 100, Integer.MIN_VALUE, Integer.MAX_VALUE};
        for (int x : bad) {
            due(s, x, 0, NONE);
            due(s, 0, x, NONE);
            due(s, x, x, NONE);
        }
        due(new ProductiveStreams(3, 40), 0, 0, NONE);
        due(new ProductiveStreams(8, 40), 8, 8, NONE);
    }

    private static void openAndUndefined() {
        ProductiveStreams s = Check.system(4, 40, "DEF 0 TAIL REF 1");
        due(s, 0, 1, 1);
        Check.enter(s, "DEF 1 ZIPADD REF 0 ZIPADD REF 1 ZIPADD REF 2");
        due(s, 0, 1, 1);
        due(s, 1, 0, NONE);
        due(s, 1, 1, NONE);
        due(s, 0, 2, NONE);
        due(s, 0, 0, NONE);
        Check.enter(s, "CONS NUM 1 CONS NUM 1 REF 2");
        due(s, 1, 0, 1);
        due(s, 0, 0, 2);
        due(s, 1, 1, 2);
        due(s, 0, 2, 2);
        due(s, 2, 0, NONE);
        due(s, 2, 2, NONE);
        s.eval(0, 0);
        due(s, 0, 2, 2);
    }

    private static void greatestWeights() {
        ProductiveStreams up = Check.system(8, 96, "DEF 0 " + Check.repeat("TAIL", 94) + "REF 0");
        due(up, 0, 0, 8 * 94);
        ProductiveStreams down = Check.system(8, 96, "DEF 0 " + Check.repeat("CONS NUM 1", 47) + "REF 1");
        due(down, 0, 1, -47);
    }
}

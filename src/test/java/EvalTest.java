/** Promise 10. */
final class EvalTest {
    private static final int BLACKHOLE = ProductiveStreams.BLACKHOLE;
    private static final int RANGE = ProductiveStreams.RANGE;
    private static final int NOTREADY = ProductiveStreams.NOTREADY;
    private static final int BADARG = ProductiveStreams.BADARG;

    public static void main(String[] args) {
        notReady();
        badArguments();
        operators();
        wrapping();
        sequences();
        blackHoles();
        ranges();
        orderOfDemands();
        onlyVisitedCellsDemand();
        manyDemands();
        longestPath();
        widestTrees();
        nothingKept();
        Check.end();
    }

    private static void dueRefused(ProductiveStreams s, int name, int index, int outcome) {
        String before = Check.view(s);
        String call = "eval(" + name + ", " + index + ")";
        Check.due(call, s.eval(name, index), outcome);
        Check.due("the object after " + call, Check.view(s), before);
    }

    private static void notReady() {
        int[] ints = {-1, 0, 1, 2, 31, 32, Integer.MIN_VALUE, Integer.MAX_VALUE};
        ProductiveStreams empty = new ProductiveStreams(2, 40);
        ProductiveStreams ok = Check.system(3, 40, "DEF 0 CONS NUM 8 REF 0");
        Check.dueOk(ok, 0, 2, 8);
        Check.enter(ok, "DEF 1");
        ProductiveStreams fault = Check.system(3, 40, "DEF 0 REF 0");
        Check.dueFault(fault, 0, 2, BLACKHOLE, 0, 2);
        Check.enter(fault, "DEF 1 REF 2");
        for (int name : ints) {
            for (int index : ints) {
                dueRefused(empty, name, index, NOTREADY);
                dueRefused(ok, name, index, NOTREADY);
                dueRefused(fault, name, index, NOTREADY);
            }
        }
        Check.enter(ok, "REF 2");
        dueRefused(ok, 0, 0, NOTREADY);
        Check.enter(ok, "DEF 2 CONS NUM 3 REF 1");
        Check.dueOk(ok, 1, 5, 3);
    }

    private static void badArguments() {
        ProductiveStreams s = Check.system(3, 40, "DEF 0 CONS NUM 8 REF 0", "DEF 1 TAIL REF 1");
        int[] badNames = {-1, 2, 3, 4, 7, 8, Integer.MIN_VALUE, Integer.MAX_VALUE};
        int[] badIndexes = {-1, 32, 33, 1000, Integer.MIN_VALUE, Integer.MAX_VALUE};
        Check.dueOk(s, 0, 4, 8);
        for (int round = 0; round < 2; round++) {
            for (int name : badNames) {
                dueRefused(s, name, 0, BADARG);
                dueRefused(s, name, 32, BADARG);
                dueRefused(s, name, -1, BADARG);
            }
            for (int index : badIndexes) {
                dueRefused(s, 0, index, BADARG);
                dueRefused(s, 1, index, BADARG);
            }
            Check.dueFault(s, 1, 31, RANGE, 1, 32);
        }
        ProductiveStreams most = Check.system(8, 40, "DEF 7 CONS NUM 8 REF 7");
        dueRefused(most, 8, 0, BADARG);
        Check.dueOk(most, 7, 31, 8);
    }

    private static void operators() {
        String nines = "DEF 1 CONS NUM 9 CONS NUM 90 CONS NUM 900 REF 1";
        String fours = "DEF 2 CONS NUM 4 CONS NUM 40 CONS NUM 400 REF 2";
        int[][] due = {{13, 130, 1300}, {5, 50, 500}, {36, 3600, 360000}};
        String[] zips = {"ZIPADD", "ZIPSUB", "ZIPMUL"};
        String[] elements = {"ADD", "SUB", "MUL"};
        for (int k = 0; k < 3; k++) {
            ProductiveStreams zip = Check.system(3, 40, nines, fours, "DEF 0 " + zips[k] + " REF 1 REF 2");
            for (int j = 0; j < 32; j++) {
                Check.dueOk(zip, 0, j, due[k][j % 3]);
            }
            ProductiveStreams element = Check.system(3, 40, nines, fours, "DEF 0 CONS " + elements[k] + " NUM 9 NUM 4 REF 1");
            Check.dueOk(element, 0, 0, due[k][0]);
            Check.dueOk(element, 0, 1, 9);
            ProductiveStreams heads = Check.system(3, 40, nines, fours,
                "DEF 0 CONS NUM 1 CONS " + elements[k] + " HEAD TAIL REF 1 HEAD TAIL REF 2 REF 1");
            Check.dueOk(heads, 0, 0, 1);
            Check.dueOk(heads, 0, 1, due[k][1]);
            Check.dueOk(heads, 0, 2, 9);
        }
        ProductiveStreams tails = Check.system(3, 40, nines, "DEF 0 TAIL TAIL REF 1");
        Check.dueOk(tails, 0, 0, 900);
        Check.dueOk(tails, 0, 1, 9);
        ProductiveStreams headOfCons = Check.system(3, 40, nines, "DEF 0 CONS NUM 3 CONS HEAD CONS HEAD TAIL REF 1 REF 1 REF 1");
        Check.dueOk(headOfCons, 0, 1, 90);
        Check.dueOk(headOfCons, 0, 2, 9);
        ProductiveStreams nested = Check.system(3, 40, "DEF 0 CONS SUB SUB NUM 10 NUM 3 SUB NUM 7 MUL NUM 2 NUM 5 REF 0");
        Check.dueOk(nested, 0, 0, 10 - 3 - (7 - 2 * 5));
        ProductiveStreams zips3 = Check.system(3, 40, nines, fours, "DEF 0 ZIPSUB ZIPSUB REF 1 REF 2 ZIPSUB REF 2 TAIL REF 1");
        Check.dueOk(zips3, 0, 0, 9 - 4 - (4 - 90));
    }

    private static void wrapping() {
        int[] ints = {0, 1, -1, 65536, 46341, Integer.MAX_VALUE, Integer.MIN_VALUE};
        for (int a : ints) {
            for (int b : ints) {
                String heads = " NUM " + a + " NUM " + b;
                Check.dueOk(Check.system(1, 16, "DEF 0 CONS ADD" + heads + " REF 0"), 0, 1, a + b);
                Check.dueOk(Check.system(1, 16, "DEF 0 CONS SUB" + heads + " REF 0"), 0, 1, a - b);
                Check.dueOk(Check.system(1, 16, "DEF 0 CONS MUL" + heads + " REF 0"), 0, 1, a * b);
                String streams = " CONS NUM " + a + " REF 0 CONS NUM " + b + " REF 0";
                Check.dueOk(Check.system(1, 16, "DEF 0 ZIPADD" + streams), 0, 0, a + b);
                Check.dueOk(Check.system(1, 16, "DEF 0 ZIPSUB" + streams), 0, 0, a - b);
                Check.dueOk(Check.system(1, 16, "DEF 0 ZIPMUL" + streams), 0, 0, a * b);
            }
        }
    }

    private static void sequences() {
        ProductiveStreams fib = Check.system(3, 40, "DEF 0 CONS NUM 0 CONS NUM 1 ZIPADD REF 0 TAIL REF 0");
        int a = 0;
        int b = 1;
        for (int j = 0; j < 32; j++) {
            Check.dueOk(fib, 0, j, a);
            int next = a + b;
            a = b;
            b = next;
        }
        ProductiveStreams fact = Check.system(3, 40, "DEF 0 CONS NUM 1 REF 0", "DEF 1 CONS NUM 1 ZIPADD REF 0 REF 1", "DEF 2 CONS NUM 1 ZIPMUL REF 1 REF 2");
        int product = 1;
        for (int j = 0; j < 32; j++) {
            Check.dueOk(fact, 0, j, 1);
            Check.dueOk(fact, 1, j, j + 1);
            Check.dueOk(fact, 2, j, product);
            product *= j + 1;
        }
    }

    private static void blackHoles() {
        ProductiveStreams self = Check.system(3, 40, "DEF 2 REF 2");
        Check.dueFault(self, 2, 0, BLACKHOLE, 2, 0);
        Check.dueFault(self, 2, 31, BLACKHOLE, 2, 31);
        ProductiveStreams ring = Check.system(3, 40, "DEF 0 REF 1", "DEF 1 REF 2", "DEF 2 REF 1");
        Check.dueFault(ring, 0, 7, BLACKHOLE, 1, 7);
        Check.dueFault(ring, 1, 7, BLACKHOLE, 1, 7);
        Check.dueFault(ring, 2, 7, BLACKHOLE, 2, 7);
        ProductiveStreams head = Check.system(3, 40, "DEF 0 CONS HEAD REF 0 REF 0");
        Check.dueFault(head, 0, 0, BLACKHOLE, 0, 0);
        Check.dueFault(head, 0, 9, BLACKHOLE, 0, 0);
        ProductiveStreams back = Check.system(3, 40, "DEF 0 CONS NUM 1 TAIL REF 0");
        Check.dueOk(back, 0, 0, 1);
        Check.dueFault(back, 0, 1, BLACKHOLE, 0, 1);
        ProductiveStreams zero = Check.system(3, 40, "DEF 0 ZIPMUL CONS NUM 0 REF 0 REF 0");
        Check.dueFault(zero, 0, 0, BLACKHOLE, 0, 0);
        ProductiveStreams there = Check.system(3, 40, "DEF 0 CONS NUM 1 REF 1", "DEF 1 TAIL REF 0");
        Check.dueOk(there, 0, 0, 1);
        Check.dueFault(there, 0, 4, BLACKHOLE, 0, 4);
        Check.dueFault(there, 1, 4, BLACKHOLE, 1, 4);
    }

    private static void ranges() {
        String ones = "DEF 1 CONS NUM 1 REF 1";
        ProductiveStreams one = Check.system(3, 40, ones, "DEF 0 TAIL REF 1");
        Check.dueOk(one, 0, 30, 1);
        Check.dueFault(one, 0, 31, RANGE, 1, 32);
        ProductiveStreams self = Check.system(3, 40, "DEF 0 TAIL REF 0");
        Check.dueFault(self, 0, 0, RANGE, 0, 32);
        Check.dueFault(self, 0, 31, RANGE, 0, 32);
        ProductiveStreams five = Check.system(3, 40, ones, "DEF 0 TAIL TAIL TAIL TAIL TAIL REF 1");
        Check.dueOk(five, 0, 26, 1);
        Check.dueFault(five, 0, 27, RANGE, 1, 32);
        Check.dueFault(five, 0, 31, RANGE, 1, 36);
        ProductiveStreams most = Check.system(2, 96, "DEF 1 " + Check.repeat("TAIL", 94) + "REF 1");
        Check.dueFault(most, 1, 31, RANGE, 1, 125);
        Check.dueFault(most, 1, 0, RANGE, 1, 94);
        // The pair beyond the limit of one name is not the first pair of the next name.
        String far = " TAIL".repeat(32) + " REF ";
        ProductiveStreams next = Check.system(3, 60, "DEF 0 CONS NUM 7 REF 0", ones, "DEF 2 CONS ADD HEAD REF 1 HEAD" + far + "0 REF 2");
        Check.dueFault(next, 2, 0, RANGE, 0, 32);
        ProductiveStreams last = Check.system(8, 60, "DEF 7 CONS NUM 7 REF 7", "DEF 0 CONS HEAD" + far + "7 REF 7");
        Check.dueFault(last, 0, 0, RANGE, 7, 32);
        // A cell may be visited beyond the limit as long as nothing is demanded there.
        ProductiveStreams inner = Check.system(3, 40, ones, "DEF 0 TAIL TAIL CONS NUM 2 CONS NUM 3 REF 1");
        Check.dueOk(inner, 0, 31, 1);
    }

    /** The first fault in the order of the demands is the one that is told. */
    private static void orderOfDemands() {
        String hole = "DEF 1 REF 1";
        String far = "DEF 2 TAIL REF 2";
        ProductiveStreams holeFirst = Check.system(3, 40, hole, far, "DEF 0 ZIPADD REF 1 REF 2");
        Check.dueFault(holeFirst, 0, 5, BLACKHOLE, 1, 5);
        ProductiveStreams farFirst = Check.system(3, 40, hole, far, "DEF 0 ZIPADD REF 2 REF 1");
        Check.dueFault(farFirst, 0, 5, RANGE, 2, 32);
        ProductiveStreams ownFirst = Check.system(3, 40, hole, far, "DEF 0 ZIPSUB REF 0 REF 2");
        Check.dueFault(ownFirst, 0, 5, BLACKHOLE, 0, 5);
        ProductiveStreams ownLast = Check.system(3, 40, hole, far, "DEF 0 ZIPSUB REF 2 REF 0");
        Check.dueFault(ownLast, 0, 5, RANGE, 2, 32);
        // The first demand is followed to its end before the second is looked at.
        ProductiveStreams deep = Check.system(3, 40, "DEF 0 ZIPADD REF 1 TAIL REF 0", "DEF 1 REF 2", "DEF 2 REF 0");
        Check.dueFault(deep, 0, 31, BLACKHOLE, 0, 31);
        Check.dueFault(deep, 1, 31, BLACKHOLE, 1, 31);
        ProductiveStreams element = Check.system(3, 40, hole, far, "DEF 0 CONS MUL HEAD REF 2 HEAD REF 1 REF 0");
        Check.dueFault(element, 0, 0, RANGE, 2, 32);
        ProductiveStreams afterGood = Check.system(3, 40, "DEF 1 CONS NUM 1 REF 1", far, "DEF 0 ZIPADD REF 1 ZIPADD REF 2 REF 0");
        Check.dueFault(afterGood, 0, 3, RANGE, 2, 32);
    }

    private static void onlyVisitedCellsDemand() {
        ProductiveStreams s = Check.system(3, 40, "DEF 1 REF 1", "DEF 0 CONS HEAD REF 1 CONS NUM 6 REF 1");
        Check.dueFault(s, 0, 0, BLACKHOLE, 1, 0);
        Check.dueOk(s, 0, 1, 6);
        Check.dueFault(s, 0, 2, BLACKHOLE, 1, 0);
        ProductiveStreams t = Check.system(3, 40, "DEF 1 REF 1", "DEF 0 CONS NUM 2 CONS HEAD CONS NUM 4 REF 1 CONS NUM 6 REF 1");
        Check.dueOk(t, 0, 0, 2);
        Check.dueOk(t, 0, 1, 4);
        Check.dueOk(t, 0, 2, 6);
        Check.dueFault(t, 0, 3, BLACKHOLE, 1, 0);
        ProductiveStreams dropped = Check.system(3, 40, "DEF 1 REF 1", "DEF 0 TAIL CONS HEAD REF 1 CONS NUM 5 REF 0");
        Check.dueOk(dropped, 0, 0, 5);
    }

    /** The demands double, or worse, with every index: each pair has to be made but once. */
    private static void manyDemands() {
        ProductiveStreams s = Check.system(1, 96, "DEF 0 CONS NUM 1 " + Check.repeat("ZIPADD REF 0", 44) + "REF 0");
        int power = 1;
        for (int j = 0; j < 32; j++) {
            Check.dueOk(s, 0, j, power);
            power *= 45;
        }
        ProductiveStreams t = Check.system(2, 40, "DEF 0 CONS NUM 1 ZIPADD REF 1 REF 1", "DEF 1 ZIPADD REF 0 ZIPADD REF 0 REF 0");
        power = 1;
        for (int j = 0; j < 32; j++) {
            Check.dueOk(t, 0, j, power);
            Check.dueOk(t, 1, j, 3 * power);
            power *= 6;
        }
    }

    /** One demand leads through all 256 pairs. */
    private static void longestPath() {
        ProductiveStreams s = new ProductiveStreams(8, 96);
        for (int x = 0; x < 7; x++) {
            Check.enter(s, "DEF " + x + " REF " + (x + 1));
        }
        Check.enter(s, "DEF 7 CONS NUM 5 ZIPADD REF 0 CONS NUM 1 REF 0");
        Check.due("verdict() of the longest path", s.verdict(), ProductiveStreams.ACCEPTED);
        Check.dueOk(s, 0, 0, 5);
        Check.dueOk(s, 0, 1, 6);
        Check.dueOk(s, 0, 2, 11);
        int older = 5;
        int newer = 6;
        for (int j = 2; j < 32; j++) {
            int next = newer + older;
            older = newer;
            newer = next;
        }
        Check.dueOk(s, 0, 31, newer);
        ProductiveStreams hole = new ProductiveStreams(8, 96);
        for (int x = 0; x < 7; x++) {
            Check.enter(hole, "DEF " + x + " REF " + (x + 1));
        }
        Check.enter(hole, "DEF 7 CONS HEAD " + Check.repeat("TAIL", 31) + "REF 0 REF 0");
        Check.dueFault(hole, 0, 31, BLACKHOLE, 0, 31);
    }

    private static void widestTrees() {
        ProductiveStreams left = Check.system(1, 96, "DEF 0 CONS " + Check.repeat("SUB", 46) + Check.repeat("NUM 1", 47) + "REF 0");
        Check.due("used() of the left tree", left.used(), 96);
        Check.dueOk(left, 0, 0, 1 - 46);
        Check.dueOk(left, 0, 31, 1 - 46);
        ProductiveStreams right = Check.system(1, 96, "DEF 0 CONS " + Check.repeat("SUB NUM 1", 46) + "NUM 1 REF 0");
        Check.dueOk(right, 0, 0, 1);
        ProductiveStreams list = new ProductiveStreams(1, 96);
        list.begin(0);
        for (int j = 0; j < 47; j++) {
            Check.enter(list, "CONS NUM " + j * j);
        }
        Check.enter(list, "REF 0");
        Check.due("used() of the list", list.used(), 96);
        for (int j = 0; j < 32; j++) {
            Check.dueOk(list, 0, j, j * j);
        }
    }

    /** An evaluation that faulted leaves nothing behind that a later one could stumble over. */
    private static void nothingKept() {
        ProductiveStreams s = Check.system(2, 16, "DEF 0 TAIL REF 0", "DEF 1 REF 0");
        for (int j = 0; j < 32; j++) {
            Check.dueFault(s, 0, j, RANGE, 0, 32);
            Check.dueFault(s, 1, j, RANGE, 0, 32);
        }
        s.reset();
        Check.enter(s, "DEF 1 ZIPADD REF 0 REF 0");
        Check.enter(s, "DEF 0 CONS NUM 4 CONS NUM 6 REF 0");
        for (int j = 0; j < 32; j++) {
            Check.dueOk(s, 1, j, j % 2 == 0 ? 8 : 12);
        }
        s.reset();
        Check.enter(s, "DEF 0 CONS NUM 5 REF 0");
        Check.enter(s, "DEF 1 ZIPADD REF 0 REF 0");
        for (int j = 0; j < 32; j++) {
            Check.dueOk(s, 1, j, 10);
        }
    }
}

/** Promise 2. */
final class ResetTest {
    private static final String EMPTIED = "used 0 cells pending 0 slots open -1 defined value 0 fault -1,-1";

    public static void main(String[] args) {
        ProductiveStreams fresh = new ProductiveStreams(3, 20);
        dueEmptied(fresh, "a new object");
        dueEmptied(fresh, "an object that was reset");

        ProductiveStreams open = Check.system(3, 20, "DEF 0 CONS NUM 5 REF 0", "DEF 2 ZIPADD CONS ADD NUM 4");
        open.eval(0, 0);
        dueEmptied(open, "an open definition");

        ProductiveStreams ok = Check.system(3, 20, "DEF 0 CONS NUM 5 REF 0");
        Check.dueOk(ok, 0, 3, 5);
        dueEmptied(ok, "after OK");

        ProductiveStreams hole = Check.system(3, 20, "DEF 1 REF 1");
        Check.dueFault(hole, 1, 3, ProductiveStreams.BLACKHOLE, 1, 3);
        dueEmptied(hole, "after BLACKHOLE");

        ProductiveStreams range = Check.system(3, 20, "DEF 2 TAIL REF 2");
        Check.dueFault(range, 2, 3, ProductiveStreams.RANGE, 2, 32);
        dueEmptied(range, "after RANGE");

        ProductiveStreams full = Check.system(3, 20, "DEF 0 " + Check.repeat("TAIL", 19));
        dueEmptied(full, "a full object");
        nothingOldIsLeft();
        Check.end();
    }

    private static void dueEmptied(ProductiveStreams s, String what) {
        s.reset();
        Check.due("reset of " + what, Check.view(s), EMPTIED);
        Check.due("verdict() after reset of " + what, s.verdict(), ProductiveStreams.EMPTY);
        Check.due("eval(0, 0) after reset of " + what, s.eval(0, 0), ProductiveStreams.NOTREADY);
        for (int x = 0; x < 3; x++) {
            for (int y = 0; y < 3; y++) {
                Check.due("guard(" + x + ", " + y + ") after reset of " + what, s.guard(x, y), ProductiveStreams.NONE);
            }
        }
        Check.due("token after reset of " + what, s.token(ProductiveStreams.REF, 0), false);
        dueSameSize(s, what);
        s.reset();
        Check.due("second reset of " + what, Check.view(s), EMPTIED);
    }

    private static void dueSameSize(ProductiveStreams s, String what) {
        Check.due("begin(3) after reset of " + what, s.begin(3), false);
        Check.enter(s, "DEF 0 CONS NUM 1 REF 0");
        Check.enter(s, "DEF 1 CONS NUM 1 REF 0");
        Check.enter(s, "DEF 2 " + Check.repeat("TAIL", 11));
        Check.due("used() after reset of " + what, s.used(), 20);
        Check.due("token in a full object after reset of " + what, s.token(ProductiveStreams.REF, 0), false);
    }

    private static void nothingOldIsLeft() {
        ProductiveStreams s = Check.system(2, 16, "DEF 0 CONS NUM 1 CONS NUM 2 REF 1", "DEF 1 TAIL TAIL REF 1");
        s.reset();
        Check.enter(s, "DEF 1 CONS NUM 7 CONS SUB NUM 9 NUM 1 REF 1");
        Check.due("cells after reset", Check.view(s),
            "used 8 cells 0:12/1 1:6/0 2:1/7 3:6/0 4:4/0 5:1/9 6:1/1 7:11/1 pending 0 slots open -1 defined 1 value 0 fault -1,-1");
        Check.due("guard(1, 1) after reset", s.guard(1, 1), -2);
        Check.due("guard(0, 1) after reset", s.guard(0, 1), ProductiveStreams.NONE);
        Check.due("verdict() after reset", s.verdict(), ProductiveStreams.ACCEPTED);
        Check.dueOk(s, 1, 30, 7);
        Check.dueOk(s, 1, 31, 8);
    }
}

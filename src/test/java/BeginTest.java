/** Promise 3. */
final class BeginTest {
    public static void main(String[] args) {
        ordinary();
        refusedNames();
        refusedWhileOpen();
        refusedWhenDefined();
        refusedWhenFull();
        Check.end();
    }

    private static void dueRefused(ProductiveStreams s, String state, int name) {
        String before = Check.view(s);
        int verdict = s.verdict();
        Check.due("begin(" + name + ") " + state, s.begin(name), false);
        Check.due("the object after begin(" + name + ") " + state, Check.view(s), before);
        Check.due("verdict() after begin(" + name + ") " + state, s.verdict(), verdict);
    }

    private static void ordinary() {
        for (int name = 0; name < 8; name++) {
            ProductiveStreams s = new ProductiveStreams(8, 96);
            Check.due("begin(" + name + ")", s.begin(name), true);
            Check.due("after begin(" + name + ")", Check.view(s),
                "used 1 cells 0:12/" + name + " pending 1 slots 0:2 open " + name + " defined value 0 fault -1,-1");
        }
        ProductiveStreams s = Check.system(4, 20, "DEF 3 CONS NUM 9 REF 3");
        s.eval(3, 4);
        Check.due("begin(1)", s.begin(1), true);
        Check.due("a second definition", Check.view(s),
            "used 5 cells 0:12/3 1:6/0 2:1/9 3:11/3 4:12/1 pending 1 slots 0:2 open 1 defined 3 value 9 fault -1,-1");
        ProductiveStreams t = Check.system(4, 20, "DEF 3 TAIL REF 3");
        t.eval(3, 4);
        Check.due("begin(0)", t.begin(0), true);
        Check.due("begin after a fault", Check.result(t), "value 0 fault 3,32");
    }

    private static void refusedNames() {
        ProductiveStreams s = Check.system(4, 20, "DEF 1 CONS NUM 9 REF 1");
        s.eval(1, 4);
        int[] names = {-1, 4, 5, 7, 8, 9, 96, Integer.MIN_VALUE, Integer.MAX_VALUE};
        for (int name : names) {
            dueRefused(s, "with four names", name);
        }
        dueRefused(new ProductiveStreams(8, 20), "in a new object", 8);
        dueRefused(new ProductiveStreams(8, 20), "in a new object", -1);
        dueRefused(new ProductiveStreams(1, 20), "in a new object", 1);
    }

    private static void refusedWhileOpen() {
        ProductiveStreams s = Check.system(4, 20, "DEF 0 CONS NUM 9 REF 0", "DEF 1");
        for (int name = -1; name <= 4; name++) {
            dueRefused(s, "while 1 is open", name);
        }
        Check.enter(s, "ZIPADD");
        for (int name = -1; name <= 4; name++) {
            dueRefused(s, "while 1 is open with two slots", name);
        }
    }

    private static void refusedWhenDefined() {
        ProductiveStreams s = Check.system(4, 20, "DEF 0 CONS NUM 9 REF 0", "DEF 3 REF 0");
        dueRefused(s, "when defined", 0);
        dueRefused(s, "when defined", 3);
        s.eval(0, 0);
        dueRefused(s, "when defined and evaluated", 0);
        Check.due("begin of a name that is not defined", s.begin(2), true);
    }

    private static void refusedWhenFull() {
        ProductiveStreams full = Check.system(4, 16, "DEF 0 " + Check.repeat("TAIL", 14) + "REF 0");
        Check.due("used() of the full object", full.used(), 16);
        for (int name = -1; name <= 4; name++) {
            dueRefused(full, "when full", name);
        }
        ProductiveStreams widest = Check.system(4, 96, "DEF 0 " + Check.repeat("TAIL", 94) + "REF 0");
        dueRefused(widest, "when 96 cells are full", 1);
        ProductiveStreams oneLeft = Check.system(4, 16, "DEF 0 " + Check.repeat("TAIL", 13) + "REF 0");
        Check.due("begin at the last cell", oneLeft.begin(1), true);
        Check.due("used() after begin at the last cell", oneLeft.used(), 16);
        Check.due("pending() after begin at the last cell", oneLeft.pending(), 1);
        Check.due("token after begin at the last cell", oneLeft.token(ProductiveStreams.REF, 0), false);
        Check.due("verdict() after begin at the last cell", oneLeft.verdict(), ProductiveStreams.OPEN);
    }
}

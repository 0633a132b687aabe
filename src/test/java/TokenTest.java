/** Promise 4. */
final class TokenTest {
    private static final int[] INTS = {0, 1, -1, 2, 3, 4, 7, 8, 96, 1000, Integer.MIN_VALUE, Integer.MAX_VALUE};

    public static void main(String[] args) {
        childSlots();
        valueFields();
        refusedKinds();
        refusedWhenNoneIsOpen();
        refusedSorts();
        refusedReferences();
        refusedWhenFull();
        closing();
        Check.end();
    }

    private static void dueRefused(ProductiveStreams s, String state, int kind, int value) {
        String before = Check.view(s);
        int verdict = s.verdict();
        String call = "token(" + kind + ", " + value + ") " + state;
        Check.due(call, s.token(kind, value), false);
        Check.due("the object after " + call, Check.view(s), before);
        Check.due("verdict() after " + call, s.verdict(), verdict);
    }

    private static void dueSlots(String words, String want) {
        ProductiveStreams s = Check.system(3, 40, words);
        StringBuilder got = new StringBuilder();
        for (int k = 0; k < s.pending(); k++) {
            got.append(s.slot(k) == ProductiveStreams.SORT_ELEM ? 'E' : s.slot(k) == ProductiveStreams.SORT_STREAM ? 'S' : '?');
        }
        Check.due("slots after \"" + words + "\"", got.toString(), want);
    }

    private static void childSlots() {
        dueSlots("DEF 0", "S");
        dueSlots("DEF 0 CONS", "ES");
        dueSlots("DEF 0 TAIL", "S");
        dueSlots("DEF 0 ZIPADD", "SS");
        dueSlots("DEF 0 ZIPSUB", "SS");
        dueSlots("DEF 0 ZIPMUL", "SS");
        dueSlots("DEF 0 REF 0", "");
        dueSlots("DEF 0 CONS NUM 1", "S");
        dueSlots("DEF 0 CONS HEAD", "SS");
        dueSlots("DEF 0 CONS ADD", "EES");
        dueSlots("DEF 0 CONS SUB", "EES");
        dueSlots("DEF 0 CONS MUL", "EES");
        dueSlots("DEF 0 ZIPADD CONS", "ESS");
        dueSlots("DEF 0 ZIPADD REF 1 CONS", "ES");
        dueSlots("DEF 0 CONS ADD HEAD", "SES");
        dueSlots("DEF 0 CONS ADD HEAD CONS", "ESES");
        dueSlots("DEF 0 CONS ADD NUM 1 HEAD", "SS");
        dueSlots("DEF 0 CONS SUB MUL", "EEES");
        dueSlots("DEF 0 CONS SUB MUL NUM 1 NUM 2", "ES");
    }

    private static void valueFields() {
        for (int v : INTS) {
            ProductiveStreams s = new ProductiveStreams(3, 40);
            s.begin(0);
            int[] kinds = {8, 9, 10, 6, 3, 4, 5, 2, 7};
            for (int kind : kinds) {
                Check.due("token(" + kind + ", " + v + ")", s.token(kind, v), true);
            }
            Check.enter(s, "REF 2");
            Check.due("token(1, " + v + ")", s.token(1, v), true);
            Check.due("cells with value " + v, Check.view(s).replaceAll(" pending.*", ""),
                "used 12 cells 0:12/0 1:8/0 2:9/0 3:10/0 4:6/0 5:3/0 6:4/0 7:5/0 8:2/0 9:7/0 10:11/2 11:1/" + v);
        }
    }

    private static void refusedKinds() {
        int[] kinds = {0, -1, 12, 13, 100, Integer.MIN_VALUE, Integer.MAX_VALUE};
        ProductiveStreams stream = Check.system(3, 40, "DEF 0 ZIPADD");
        ProductiveStreams elem = Check.system(3, 40, "DEF 0 CONS");
        ProductiveStreams none = new ProductiveStreams(3, 40);
        for (int kind : kinds) {
            for (int v : INTS) {
                dueRefused(stream, "for a stream", kind, v);
                dueRefused(elem, "for an element", kind, v);
                dueRefused(none, "with none open", kind, v);
            }
        }
    }

    private static void refusedWhenNoneIsOpen() {
        ProductiveStreams fresh = new ProductiveStreams(3, 40);
        ProductiveStreams closed = Check.system(3, 40, "DEF 0 CONS NUM 3 REF 0");
        closed.eval(0, 0);
        for (int kind = 1; kind <= 11; kind++) {
            dueRefused(fresh, "in a new object", kind, 0);
            dueRefused(closed, "after a closed definition", kind, 0);
        }
    }

    private static void refusedSorts() {
        for (int kind = 1; kind <= 11; kind++) {
            ProductiveStreams stream = Check.system(3, 40, "DEF 0");
            ProductiveStreams elem = Check.system(3, 40, "DEF 0 CONS");
            if (kind <= 5) {
                dueRefused(stream, "for a stream", kind, 0);
                Check.due("token(" + kind + ", 0) for an element", elem.token(kind, 0), true);
            } else {
                dueRefused(elem, "for an element", kind, 0);
                Check.due("token(" + kind + ", 0) for a stream", stream.token(kind, 0), true);
            }
        }
    }

    private static void refusedReferences() {
        int[] bad = {-1, 3, 4, 7, 8, 100, Integer.MIN_VALUE, Integer.MAX_VALUE};
        ProductiveStreams s = Check.system(3, 40, "DEF 0 CONS NUM 3 REF 0", "DEF 1 ZIPADD");
        s.eval(0, 0);
        for (int v : bad) {
            dueRefused(s, "with three names", ProductiveStreams.REF, v);
        }
        Check.due("REF to a defined name", s.token(ProductiveStreams.REF, 0), true);
        Check.enter(s, "ZIPADD");
        Check.due("REF to the open name", s.token(ProductiveStreams.REF, 1), true);
        Check.due("REF to an undefined name", s.token(ProductiveStreams.REF, 2), true);
        ProductiveStreams most = Check.system(8, 40, "DEF 0 ZIPADD");
        dueRefused(most, "with eight names", ProductiveStreams.REF, 8);
        Check.due("REF 7 with eight names", most.token(ProductiveStreams.REF, 7), true);
    }

    private static void refusedWhenFull() {
        ProductiveStreams stream = Check.system(3, 17, "DEF 0 " + Check.repeat("ZIPADD", 16));
        ProductiveStreams elem = Check.system(3, 17, "DEF 0 " + Check.repeat("CONS NUM 1", 7) + " CONS ADD");
        Check.due("used() of the full object", elem.used(), 17);
        for (int kind = 0; kind <= 12; kind++) {
            dueRefused(stream, "when full", kind, 0);
            dueRefused(elem, "when full", kind, 0);
        }
        ProductiveStreams widest = Check.system(3, 96, "DEF 0 " + Check.repeat("ZIPMUL", 95));
        dueRefused(widest, "when 96 cells are full", ProductiveStreams.ZIPMUL, 0);
        dueRefused(widest, "when 96 cells are full", ProductiveStreams.REF, 0);
        ProductiveStreams last = Check.system(3, 17, "DEF 0 " + Check.repeat("TAIL", 15));
        Check.due("token at the last cell", last.token(ProductiveStreams.REF, 0), true);
        Check.due("defined(0) after the last cell", last.defined(0), true);
    }

    private static void closing() {
        ProductiveStreams s = Check.system(3, 40, "DEF 0 CONS NUM 3 REF 0");
        s.eval(0, 0);
        Check.enter(s, "DEF 2 ZIPSUB TAIL REF 0");
        Check.due("before closing", Check.view(s),
            "used 8 cells 0:12/0 1:6/0 2:1/3 3:11/0 4:12/2 5:9/0 6:7/0 7:11/0 pending 1 slots 0:2 open 2 defined 0 value 3 fault -1,-1");
        Check.enter(s, "REF 1");
        Check.due("after closing", Check.view(s),
            "used 9 cells 0:12/0 1:6/0 2:1/3 3:11/0 4:12/2 5:9/0 6:7/0 7:11/0 8:11/1 pending 0 slots open -1 defined 0 2 value 3 fault -1,-1");
        ProductiveStreams t = Check.system(3, 40, "DEF 1 REF 1");
        t.eval(1, 5);
        Check.enter(t, "DEF 0 CONS NUM 1 REF 0");
        Check.due("tokens after a fault", Check.result(t), "value 0 fault 1,5");
    }
}

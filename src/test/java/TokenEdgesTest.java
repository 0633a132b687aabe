import java.util.function.Supplier;

/** The boundary cases of promise 4, a test for each sentence. */
final class TokenEdgesTest {
    private static final int[] VALUES = {0, 1, -1, 3, 4, 7, 8, 12, 96, 256, 65536, Edges.LEAST, Edges.LEAST + 1, Edges.MOST - 1, Edges.MOST};
    private static final String ONES = "DEF 0 CONS NUM 1 REF 0";
    private static final String STREAM_NEXT = "DEF 1 ZIPADD CONS NUM 2";
    private static final String ELEM_NEXT = "DEF 1 ZIPADD CONS SUB";

    public static void main(String[] args) {
        Edges.sentence("4: refused if kind < 1", () -> kindRefused(0, -1, -2, -11, -256, -65536 + 6, Edges.LEAST + 6, Edges.LEAST));
        Edges.sentence("4: refused if kind > 11", () -> kindRefused(13, 14, 17, 128, 256 + 6, 65536 + 6, Edges.MOST - 1, Edges.MOST));
        Edges.sentence("4: so DEF is refused as a token", () -> kindRefused(ProductiveStreams.DEF));
        Edges.sentence("4: not refused for the kinds 1 and 11", TokenEdgesTest::leastAndGreatestKind);
        Edges.sentence("4: refused if no definition is open", TokenEdgesTest::noneOpen);
        Edges.sentence("4: refused if the sort of kind differs from the sort of slot 0", TokenEdgesTest::wrongSort);
        Edges.sentence("4: refused if kind is REF and value < 0", TokenEdgesTest::negativeReference);
        Edges.sentence("4: refused if kind is REF and value >= NAMES", TokenEdgesTest::tooLargeReference);
        Edges.sentence("4: refused if used() == CELLS", TokenEdgesTest::full);
        Edges.sentence("4: not refused at the last cell", TokenEdgesTest::lastCell);
        Edges.sentence("4: the first that holds refuses the call, which answers false and changes nothing", TokenEdgesTest::severalReasons);
        Edges.sentence("4: value is ignored for kinds other than NUM and REF", TokenEdgesTest::valueIgnored);
        Edges.sentence("4: for NUM any int is kept as given", TokenEdgesTest::anyLiteral);
        Edges.sentence("4: if no slot is left pending, the definition is closed", TokenEdgesTest::closes);
        Edges.sentence("4: it is not closed while a slot is pending", TokenEdgesTest::staysOpen);
        Edges.sentence("4: value(), faultName(), faultIndex() do not change", TokenEdgesTest::resultsStay);
        Edges.sentence("4: nor do earlier cells or other definitions", TokenEdgesTest::othersStay);
        Edges.sentence("4: a REF may name a name that is defined", () -> mayName(0));
        Edges.sentence("4: a REF may name the name being defined", () -> mayName(1));
        Edges.sentence("4: a REF may name a name that is neither defined nor open", () -> mayName(2));
        Edges.sentence("4: a REF may name any name in 0..NAMES-1", TokenEdgesTest::mayNameAny);
        Check.end();
    }

    private static void dueRefused(int kind, int value, int names, int cells, String... definitions) {
        String call = "token(" + kind + ", " + value + ") after " + String.join("; ", definitions);
        Edges.dueRefused(call, Edges.evaluated(names, cells, definitions), s -> s.token(kind, value));
    }

    private static void kindRefused(int... kinds) {
        int[] values = {0, 1, 3, Edges.LEAST, Edges.MOST};
        for (int kind : kinds) {
            for (int value : values) {
                dueRefused(kind, value, 4, 40, ONES, "DEF 1");
                dueRefused(kind, value, 4, 40, ONES, STREAM_NEXT);
                dueRefused(kind, value, 4, 40, ONES, ELEM_NEXT);
                dueRefused(kind, value, 4, 40, ONES);
                dueRefused(kind, value, 4, 16);
            }
        }
    }

    private static void leastAndGreatestKind() {
        Check.due("token(1, 0) for an element", Check.system(4, 40, ELEM_NEXT).token(1, 0), true);
        Check.due("token(11, 0) for a stream", Check.system(4, 40, STREAM_NEXT).token(11, 0), true);
    }

    private static void noneOpen() {
        for (int kind = 1; kind <= 11; kind++) {
            int k = kind;
            dueRefused(kind, 0, 4, 16);
            dueRefused(kind, 0, 4, 40, ONES);
            dueRefused(kind, 1, 4, 40, ONES, STREAM_NEXT + " REF 0 REF 1");
            Edges.dueRefused("token(" + k + ", 0) after eval", Edges.state(4, 40, 0, 3, ONES), s -> s.token(k, 0));
            ProductiveStreams s = Check.system(4, 40, STREAM_NEXT);
            s.reset();
            Check.due("token(" + k + ", 0) after reset", s.token(k, 0), false);
            s.begin(4);
            Check.due("token(" + k + ", 0) after a refused begin", s.token(k, 0), false);
            Check.due("used() after refused tokens", s.used(), 0);
        }
    }

    private static void wrongSort() {
        String[] streamNext = {"DEF 1", STREAM_NEXT, "DEF 1 TAIL", "DEF 1 CONS HEAD", "DEF 1 ZIPSUB REF 0", "DEF 1 CONS ADD HEAD"};
        String[] elemNext = {"DEF 1 CONS", ELEM_NEXT, "DEF 1 CONS ADD", "DEF 1 CONS SUB NUM 1", "DEF 1 CONS MUL HEAD REF 0", "DEF 1 TAIL CONS"};
        for (int kind = 1; kind <= 11; kind++) {
            boolean elem = kind <= 5;
            for (String words : elem ? streamNext : elemNext) {
                dueRefused(kind, 0, 4, 40, ONES, words);
            }
            for (String words : elem ? elemNext : streamNext) {
                Check.due("token(" + kind + ", 0) after " + words, Check.system(4, 40, ONES, words).token(kind, 0), true);
            }
        }
    }

    private static void negativeReference() {
        int[] bad = {-1, -2, -8, -256, -65536, Edges.LEAST + 1, Edges.LEAST};
        for (int value : bad) {
            for (int names = 2; names <= 8; names++) {
                dueRefused(ProductiveStreams.REF, value, names, 40, ONES, STREAM_NEXT);
            }
            dueRefused(ProductiveStreams.REF, value, 1, 16, "DEF 0");
        }
    }

    private static void tooLargeReference() {
        for (int names = 2; names <= 8; names++) {
            int[] bad = {names, names + 1, 8, 9, 32, 256, 65536, Edges.MOST - 1, Edges.MOST};
            for (int value : bad) {
                dueRefused(ProductiveStreams.REF, value, names, 40, ONES, STREAM_NEXT);
            }
        }
        dueRefused(ProductiveStreams.REF, 1, 1, 16, "DEF 0");
        dueRefused(ProductiveStreams.REF, 1, 1, 16, "DEF 0 CONS HEAD");
    }

    private static void full() {
        int[] sizes = {16, 17, 50, 95, 96};
        for (int cells : sizes) {
            for (int kind = 6; kind <= 11; kind++) {
                dueRefused(kind, 0, 4, cells, "DEF 1 " + Check.repeat("TAIL", cells - 1));
                dueRefused(kind, 0, 4, cells, ONES, "DEF 1 " + Check.repeat("ZIPADD", cells - 5));
            }
            for (int kind = 1; kind <= 5; kind++) {
                dueRefused(kind, 0, 4, cells, "DEF 1 CONS " + Check.repeat("ADD", cells - 2));
                dueRefused(kind, 0, 4, cells, ONES, "DEF 1 " + Check.repeat("TAIL", cells - 6) + "CONS");
            }
        }
    }

    private static void lastCell() {
        int[] sizes = {16, 17, 50, 95, 96};
        for (int cells : sizes) {
            for (int kind = 1; kind <= 11; kind++) {
                String next = kind <= 5 ? "TAIL CONS" : "TAIL TAIL";
                ProductiveStreams s = Check.system(4, cells, "DEF 1 " + Check.repeat("TAIL", cells - 4) + next);
                Check.due("used() before the last of " + cells + " cells", s.used(), cells - 1);
                Check.due("token(" + kind + ", 2) at the last of " + cells + " cells", s.token(kind, 2), true);
                Check.due("used() after it", s.used(), cells);
                Check.due("the last cell's kind", s.cellKind(cells - 1), kind);
                Check.due("the last cell's value", s.cellValue(cells - 1), kind == 1 || kind == 11 ? 2 : 0);
                Check.due("defined(1) after it", s.defined(1), kind == 11);
            }
        }
    }

    private static void severalReasons() {
        String fullOfStreams = "DEF 1 " + Check.repeat("ZIPADD", 11);
        String fullOfElements = "DEF 1 CONS " + Check.repeat("MUL", 10);
        String fullAndClosed = "DEF 1 " + Check.repeat("TAIL", 10) + "REF 1";
        int[] kinds = {Edges.LEAST, -1, 0, 1, 2, 3, 4, 5, 6, 7, 8, 9, 10, 11, 12, 13, Edges.MOST};
        int[] values = {0, -1, 4, Edges.LEAST, Edges.MOST};
        for (int kind : kinds) {
            for (int value : values) {
                dueRefused(kind, value, 4, 16, ONES, fullOfStreams);
                dueRefused(kind, value, 4, 16, ONES, fullOfElements);
                dueRefused(kind, value, 4, 16, ONES, fullAndClosed);
                dueRefused(kind, value, 4, 16, ONES);
            }
        }
        for (int value : values) {
            dueRefused(ProductiveStreams.REF, value, 4, 40, ONES, ELEM_NEXT);
        }
    }

    private static void valueIgnored() {
        for (int kind = 2; kind <= 10; kind++) {
            String words = kind <= 5 ? ELEM_NEXT : STREAM_NEXT;
            for (int value : VALUES) {
                String call = "token(" + kind + ", " + value + ")";
                ProductiveStreams s = Check.system(4, 40, ONES, words);
                int at = s.used();
                Check.due(call, s.token(kind, value), true);
                Check.due("cellKind after " + call, s.cellKind(at), kind);
                Check.due("cellValue after " + call, s.cellValue(at), 0);
                Edges.dueSame(call + " beside token(" + kind + ", 0)", afterToken(words, kind, value), afterToken(words, kind, 0));
            }
        }
    }

    private static Supplier<ProductiveStreams> afterToken(String words, int kind, int value) {
        return () -> {
            ProductiveStreams s = Check.system(4, 40, ONES, words);
            s.token(kind, value);
            return s;
        };
    }

    private static void anyLiteral() {
        for (int value : VALUES) {
            ProductiveStreams s = Check.system(4, 40, "DEF 1 CONS");
            Check.due("token(1, " + value + ")", s.token(ProductiveStreams.NUM, value), true);
            Check.due("cellKind(2)", s.cellKind(2), ProductiveStreams.NUM);
            Check.due("cellValue(2)", s.cellValue(2), value);
            Check.enter(s, "REF 1");
            Check.dueOk(s, 1, 31, value);
        }
    }

    private static void closes() {
        String[] beforeLast = {"", "TAIL", "CONS NUM 1", "ZIPADD REF 0", "ZIPSUB REF 0", "ZIPMUL REF 0", "CONS HEAD REF 0", "ZIPADD ZIPADD REF 0 REF 0 CONS ADD NUM 1 NUM 1"};
        for (int name = 0; name < 8; name++) {
            for (String words : beforeLast) {
                ProductiveStreams s = Check.system(8, 40, "DEF " + name + " " + words);
                String what = " after DEF " + name + " " + words + " REF " + name;
                int at = s.used();
                Check.due("defined(" + name + ") before its end", s.defined(name), false);
                Check.due("pending() before its end", s.pending(), 1);
                Check.due("the last token", s.token(ProductiveStreams.REF, name), true);
                Check.due("defined(" + name + ")" + what, s.defined(name), true);
                Check.due("openName()" + what, s.openName(), -1);
                Check.due("pending()" + what, s.pending(), 0);
                Check.due("used()" + what, s.used(), at + 1);
                for (int x = 0; x < 8; x++) {
                    Check.due("defined(" + x + ")" + what, s.defined(x), x == name);
                }
                Check.due("begin" + what, s.begin((name + 1) % 8), true);
            }
        }
    }

    private static void staysOpen() {
        String[] leavesAndMore = {"CONS NUM 1", "ZIPADD REF 1", "CONS HEAD REF 1", "CONS ADD NUM 1", "CONS ADD NUM 1 NUM 1", "ZIPMUL ZIPSUB REF 1 REF 1", "CONS MUL HEAD REF 1"};
        for (String words : leavesAndMore) {
            ProductiveStreams s = Check.system(4, 40, "DEF 1 " + words);
            Check.due("openName() after " + words, s.openName(), 1);
            Check.due("defined(1) after " + words, s.defined(1), false);
            Check.due("pending() after " + words + " is not 0", s.pending() > 0, true);
        }
    }

    private static void resultsStay() {
        String[] words = {"CONS", "ADD", "HEAD", "TAIL", "REF 4", "SUB", "MUL", "NUM 6", "NUM 7", "NUM 8", "ZIPADD", "ZIPSUB", "REF 0", "REF 1", "ZIPMUL", "REF 2", "REF 3"};
        for (int outcome = 0; outcome < 3; outcome++) {
            ProductiveStreams s = Edges.withResults()[outcome];
            String before = Edges.RESULTS[outcome];
            s.begin(3);
            for (String word : words) {
                Check.enter(s, word);
                Check.due("the result after " + word, Check.result(s), before);
            }
            Check.due("defined(3)", s.defined(3), true);
        }
    }

    private static void othersStay() {
        String[] words = {"CONS", "SUB", "NUM -5", "HEAD", "REF 5", "ZIPSUB", "TAIL", "REF 2", "REF 4"};
        String entered = "DEF 5 CONS NUM 9 REF 5 DEF 3 TAIL TAIL REF 1 DEF 2";
        ProductiveStreams s = Check.system(6, 40, entered);
        for (String word : words) {
            Check.enter(s, word);
            entered += " " + word;
            Check.due("the cells after " + word, Edges.cells(s, s.used()), Edges.cellsOf(entered));
            Check.due("defined(5) after " + word, s.defined(5), true);
            Check.due("defined(3) after " + word, s.defined(3), true);
            Check.due("defined(0) after " + word, s.defined(0), false);
            Check.due("defined(1) after " + word, s.defined(1), false);
            Check.due("defined(4) after " + word, s.defined(4), false);
            Check.due("guard(5, 5) after " + word, s.guard(5, 5), -1);
            Check.due("guard(3, 1) after " + word, s.guard(3, 1), 2);
        }
        Check.due("defined(2) at the end", s.defined(2), true);
    }

    private static void mayName(int name) {
        String[] places = {"DEF 1", "DEF 1 TAIL", "DEF 1 ZIPADD", "DEF 1 ZIPADD REF 0", "DEF 1 CONS HEAD", "DEF 1 CONS NUM 1"};
        for (String words : places) {
            ProductiveStreams s = Check.system(3, 40, ONES, words);
            int at = s.used();
            Check.due("token(REF, " + name + ") after " + words, s.token(ProductiveStreams.REF, name), true);
            Check.due("cellKind after it", s.cellKind(at), ProductiveStreams.REF);
            Check.due("cellValue after it", s.cellValue(at), name);
        }
    }

    private static void mayNameAny() {
        for (int names = 1; names <= 8; names++) {
            for (int name = 0; name < names; name++) {
                ProductiveStreams s = Check.system(names, 16, "DEF 0");
                Check.due("token(REF, " + name + ") of " + names + " names", s.token(ProductiveStreams.REF, name), true);
                Check.due("cellValue(1)", s.cellValue(1), name);
            }
        }
    }
}

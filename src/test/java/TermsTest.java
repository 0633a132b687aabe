/** What the document says before its promises, in 'What it is' and in 'Terms' up to 'Parse state', a test for each sentence. */
final class TermsTest {
    /** The table of the language, as the document has it: kind, number, sort, children, and whether the value field keeps the value. */
    private static final String[][] TABLE = {
        {"NUM", "1", "E", "", "kept"},
        {"HEAD", "2", "E", "S", "0"},
        {"ADD", "3", "E", "EE", "0"},
        {"SUB", "4", "E", "EE", "0"},
        {"MUL", "5", "E", "EE", "0"},
        {"CONS", "6", "S", "ES", "0"},
        {"TAIL", "7", "S", "S", "0"},
        {"ZIPADD", "8", "S", "SS", "0"},
        {"ZIPSUB", "9", "S", "SS", "0"},
        {"ZIPMUL", "10", "S", "SS", "0"},
        {"REF", "11", "S", "", "kept"}};

    /** Words that leave a definition open, each with the slots that are then pending. */
    private static final String[][] OPEN = {
        {"DEF 1", "S"}, {"DEF 1 TAIL", "S"}, {"DEF 1 CONS NUM 4", "S"}, {"DEF 1 CONS", "ES"}, {"DEF 1 ZIPADD", "SS"}, {"DEF 1 CONS ADD", "EES"},
        {"DEF 1 CONS HEAD", "SS"}, {"DEF 1 CONS ADD HEAD", "SES"}, {"DEF 1 ZIPMUL CONS", "ESS"}, {"DEF 1 CONS ADD NUM 4", "ES"},
        {"DEF 1 CONS SUB MUL", "EEES"}, {"DEF 1 CONS SUB HEAD CONS", "ESES"}, {"DEF 1 ZIPSUB REF 2 ZIPADD", "SS"}, {"DEF 1 ZIPADD ZIPADD ZIPADD", "SSSS"}};

    public static void main(String[] args) {
        Edges.sentence("What it is: fib = 0 : 1 : zipWith (+) fib (tail fib)", TermsTest::fibonacci);
        Edges.sentence("What it is: every accepted header and token is kept as a cell that can be read back", TermsTest::readBack);
        Edges.sentence("What it is: the parser refuses ill-sorted tokens", TermsTest::illSorted);
        Edges.sentence("Names and cells: every accepted begin or token call appends exactly one cell at position used()", TermsTest::appendsOne);
        Edges.sentence("Names and cells: cells are removed only by reset", TermsTest::removedOnlyByReset);
        for (String[] row : TABLE) {
            Edges.sentence("The language: the sort of " + row[0], () -> sort(row));
            Edges.sentence("The language: the children of " + row[0] + ", in order", () -> children(row));
            Edges.sentence("The language: the value field of " + row[0], () -> valueField(row));
        }
        Edges.sentence("The language: a definition is a header cell followed by one stream expression", TermsTest::oneExpression);
        Edges.sentence("Parse state: begin opens a definition whose only pending slot is STREAM", TermsTest::onlySlot);
        Edges.sentence("Parse state: the definition is closed and its name defined when no slot is left pending after a token", TermsTest::closed);
        Edges.sentence("Parse state: at most one definition is open", TermsTest::oneOpen);
        Edges.sentence("Parse state: none is open after construction or reset", TermsTest::noneOpen);
        Check.end();
    }

    private static void fibonacci() {
        String words = "DEF 0 CONS NUM 0 CONS NUM 1 ZIPADD REF 0 TAIL REF 0";
        ProductiveStreams s = Check.system(1, 16, words);
        Check.due("verdict() of fib", s.verdict(), ProductiveStreams.ACCEPTED);
        Check.due("guard(0, 0) of fib", s.guard(0, 0), -1);
        Check.due("the cells of fib", Edges.cells(s, s.used()), Edges.cellsOf(words));
        int[] fib = new int[32];
        fib[1] = 1;
        for (int j = 0; j < 32; j++) {
            fib[j] = j < 2 ? j : fib[j - 1] + fib[j - 2];
            Check.dueOk(s, 0, j, fib[j]);
        }
    }

    private static void readBack() {
        String[] definitions = {
            "DEF 7 CONS ADD NUM -1 SUB HEAD TAIL REF 6 MUL NUM 2147483647 NUM -2147483648 ZIPADD REF 7 ZIPSUB REF 0 ZIPMUL REF 1 REF 2",
            "DEF 0 REF 0", "DEF 3 TAIL CONS NUM 12 REF 5", "DEF 6 ZIPMUL ZIPADD"};
        ProductiveStreams s = Check.system(8, 96, definitions);
        String want = Edges.cellsOf(String.join(" ", definitions));
        Check.due("the cells", Edges.cells(s, s.used()), want);
        s.verdict();
        s.eval(0, 0);
        s.token(ProductiveStreams.NUM, 9);
        s.begin(1);
        Check.due("the cells after calls that were refused", Edges.cells(s, s.used()), want);
    }

    private static String slots(ProductiveStreams s) {
        StringBuilder b = new StringBuilder();
        for (int k = 0; k < s.pending(); k++) {
            b.append(s.slot(k) == ProductiveStreams.SORT_ELEM ? 'E' : s.slot(k) == ProductiveStreams.SORT_STREAM ? 'S' : '?');
        }
        return b.toString();
    }

    private static ProductiveStreams opened(String[] open) {
        ProductiveStreams s = Check.system(4, 40, "DEF 0 CONS NUM 1 REF 0", open[0]);
        Check.due("the slots after " + open[0], slots(s), open[1]);
        return s;
    }

    private static boolean fits(String[] row, String[] open) {
        return open[1].startsWith(row[2]);
    }

    private static void illSorted() {
        for (String[] open : OPEN) {
            ProductiveStreams s = opened(open);
            String before = Check.view(s);
            for (String[] row : TABLE) {
                if (!fits(row, open)) {
                    Check.due(row[0] + " after " + open[0], s.token(Integer.parseInt(row[1]), 0), false);
                }
            }
            Check.due("the object after ill-sorted tokens", Check.view(s), before);
        }
    }

    private static void sort(String[] row) {
        for (String[] open : OPEN) {
            ProductiveStreams s = opened(open);
            Check.due(row[0] + " after " + open[0], s.token(Integer.parseInt(row[1]), 3), fits(row, open));
        }
    }

    private static void children(String[] row) {
        for (String[] open : OPEN) {
            ProductiveStreams s = opened(open);
            if (fits(row, open)) {
                s.token(Integer.parseInt(row[1]), 3);
                Check.due("the slots after " + open[0] + " " + row[0], slots(s), row[3] + open[1].substring(1));
            }
        }
    }

    private static void valueField(String[] row) {
        int[] values = {0, 1, 3, -1, 4, 12, Edges.LEAST, Edges.MOST};
        for (String[] open : OPEN) {
            for (int value : values) {
                ProductiveStreams s = opened(open);
                int at = s.used();
                if (s.token(Integer.parseInt(row[1]), value)) {
                    String cell = row[0] + " given " + value + " after " + open[0];
                    Check.due("cellKind of " + cell, s.cellKind(at), Integer.parseInt(row[1]));
                    Check.due("cellValue of " + cell, s.cellValue(at), row[4].equals("kept") ? value : 0);
                } else {
                    boolean badName = row[0].equals("REF") && (value < 0 || value > 3);
                    Check.due(row[0] + " given " + value + " is refused", badName || !fits(row, open), true);
                }
            }
        }
    }

    private static void appendsOne() {
        for (String[] open : OPEN) {
            for (String[] row : TABLE) {
                ProductiveStreams s = opened(open);
                int before = s.used();
                String cells = Edges.cells(s, before);
                boolean accepted = s.token(Integer.parseInt(row[1]), 2);
                String when = " after " + open[0] + " " + row[0];
                Check.due("used()" + when, s.used(), accepted ? before + 1 : before);
                Check.due("the cells before it" + when, Edges.cells(s, before), cells);
                Check.due("the cell at the old used()" + when, s.cellKind(before), accepted ? Integer.parseInt(row[1]) : 0);
                Check.due("the cell behind it" + when, s.cellKind(before + 1), 0);
            }
        }
        ProductiveStreams s = Check.system(4, 40, "DEF 0 CONS NUM 1 REF 0");
        Check.due("begin(3)", s.begin(3), true);
        Check.due("used() after begin(3)", s.used(), 5);
        Check.due("cellKind(4)", s.cellKind(4), ProductiveStreams.DEF);
        Check.due("cellValue(4)", s.cellValue(4), 3);
        Check.due("cellKind(5)", s.cellKind(5), 0);
        Check.due("begin(2)", s.begin(2), false);
        Check.due("used() after a refused begin", s.used(), 5);
    }

    /** Evaluations with every outcome, judgements and refused calls, while the object grows until it is full. */
    private static void removedOnlyByReset() {
        String words = "DEF 0 CONS NUM 5 REF 0 DEF 1 REF 1 DEF 2 TAIL REF 2 DEF 3 ZIPADD TAIL REF 0 REF 4";
        String[] word = words.replaceAll("(DEF|NUM|REF) ", "$1_").split(" ");
        ProductiveStreams s = new ProductiveStreams(5, 16);
        StringBuilder given = new StringBuilder();
        for (String w : word) {
            given.append(w.replace('_', ' ')).append(' ');
            Check.enter(s, w.replace('_', ' '));
            allOtherCalls(s);
            Check.due("the cells after " + given, Edges.cells(s, s.used()), Edges.cellsOf(given.toString()));
        }
        Check.due("used()", s.used(), 14);
        Check.enter(s, "DEF 4 TAIL");
        allOtherCalls(s);
        Check.due("the cells when full", Edges.cells(s, s.used()), Edges.cellsOf(given + "DEF 4 TAIL"));
        s.reset();
        Check.due("used() after reset", s.used(), 0);
        Check.due("cellKind(0) after reset", s.cellKind(0), 0);
    }

    private static void allOtherCalls(ProductiveStreams s) {
        Edges.judged(s);
        Edges.elements(s);
        s.begin(0);
        s.begin(-1);
        s.token(ProductiveStreams.DEF, 0);
        s.token(ProductiveStreams.REF, 5);
    }

    private static void oneExpression() {
        String[] expressions = {"REF 0", "TAIL REF 0", "CONS NUM 1 REF 0", "ZIPADD REF 0 REF 0", "CONS ADD NUM 1 HEAD REF 0 TAIL REF 0",
            "ZIPSUB CONS HEAD ZIPMUL REF 0 REF 0 REF 0 CONS SUB NUM 1 MUL NUM 2 NUM 3 REF 0"};
        for (String expression : expressions) {
            ProductiveStreams s = Check.system(2, 40, "DEF 1 " + expression);
            Check.due("defined(1) after " + expression, s.defined(1), true);
            int used = s.used();
            for (int kind = 1; kind <= 11; kind++) {
                Check.due("token(" + kind + ", 0) after " + expression, s.token(kind, 0), false);
            }
            Check.due("used() after " + expression, s.used(), used);
            Check.due("begin(0) after " + expression, s.begin(0), true);
        }
    }

    private static void onlySlot() {
        for (String[] open : OPEN) {
            // Slots of a definition that reset cut off must not come back.
            ProductiveStreams s = opened(open);
            s.reset();
            Check.due("begin(2)", s.begin(2), true);
            Check.due("the slots after begin(2)", slots(s), "S");
            Check.due("slot(1) after begin(2)", s.slot(1), ProductiveStreams.SORT_NONE);
        }
    }

    private static void closed() {
        for (String[] open : OPEN) {
            ProductiveStreams s = opened(open);
            for (int left = open[1].length(); left > 0; left--) {
                Check.due("pending()", s.pending(), left);
                Check.due("defined(1) with " + left + " pending", s.defined(1), false);
                Check.due("openName() with " + left + " pending", s.openName(), 1);
                // NUM and REF 3 have no children: each takes one slot away.
                Check.enter(s, s.slot(0) == ProductiveStreams.SORT_ELEM ? "NUM 6" : "REF 3");
            }
            Check.due("pending() when closed", s.pending(), 0);
            Check.due("defined(1) when closed", s.defined(1), true);
            Check.due("openName() when closed", s.openName(), -1);
        }
    }

    private static void oneOpen() {
        for (String[] open : OPEN) {
            ProductiveStreams s = opened(open);
            String before = Check.view(s);
            for (int name = 0; name < 4; name++) {
                Check.due("begin(" + name + ") after " + open[0], s.begin(name), false);
            }
            Check.due("the object after refused begins", Check.view(s), before);
        }
    }

    private static void noneOpen() {
        for (String[] open : OPEN) {
            ProductiveStreams s = opened(open);
            s.reset();
            Check.due("openName() after reset", s.openName(), -1);
            Check.due("the slots after reset", slots(s), "");
            Check.due("token after reset", s.token(ProductiveStreams.REF, 0), false);
        }
        ProductiveStreams fresh = new ProductiveStreams(4, 40);
        Check.due("openName() when new", fresh.openName(), -1);
        Check.due("token when new", fresh.token(ProductiveStreams.REF, 0), false);
    }
}

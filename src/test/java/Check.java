/** What the tests share: the count of wrong answers, a short way to enter definitions, and views of an object. */
final class Check {
    private static int wrong = 0;

    private Check() {
    }

    static void due(String call, long got, long want) {
        if (got != want) {
            report(call + " answered " + got + ", due is " + want);
        }
    }

    static void due(String call, boolean got, boolean want) {
        if (got != want) {
            report(call + " answered " + got + ", due is " + want);
        }
    }

    static void due(String what, String got, String want) {
        if (!got.equals(want)) {
            report(what + "\n  is      " + got + "\n  due is  " + want);
        }
    }

    static void report(String text) {
        wrong++;
        System.out.println(text);
    }

    static boolean anyWrong() {
        return wrong != 0;
    }

    static int wrongSoFar() {
        return wrong;
    }

    static void end() {
        if (wrong != 0) {
            System.out.println(wrong + " wrong");
            System.exit(1);
        }
    }

    /** Feeds words such as "DEF 0 CONS NUM 1 REF 0"; every call must be accepted. */
    static void enter(ProductiveStreams s, String words) {
        String[] word = words.trim().split("\\s+");
        int at = 0;
        while (at < word.length) {
            int kind = kind(word[at]);
            boolean valued = kind == ProductiveStreams.DEF || kind == ProductiveStreams.NUM || kind == ProductiveStreams.REF;
            int value = valued ? Integer.parseInt(word[at + 1]) : 0;
            boolean accepted = kind == ProductiveStreams.DEF ? s.begin(value) : s.token(kind, value);
            due("word " + at + " (" + word[at] + ") of \"" + words + "\"", accepted, true);
            at += valued ? 2 : 1;
        }
    }

    static ProductiveStreams system(int names, int cells, String... definitions) {
        ProductiveStreams s = new ProductiveStreams(names, cells);
        for (String definition : definitions) {
            enter(s, definition);
        }
        return s;
    }

    static int kind(String word) {
        String[] kinds = {"NUM", "HEAD", "ADD", "SUB", "MUL", "CONS", "TAIL", "ZIPADD", "ZIPSUB", "ZIPMUL", "REF", "DEF"};
        for (int k = 0; k < kinds.length; k++) {
            if (kinds[k].equals(word)) {
                return k + 1;
            }
        }
        throw new IllegalArgumentException(word);
    }

    static String repeat(String words, int times) {
        return (words + " ").repeat(times);
    }

    /** All that can be read from an object without a judgement or an evaluation. */
    static String view(ProductiveStreams s) {
        StringBuilder b = new StringBuilder();
        b.append("used ").append(s.used()).append(" cells");
        for (int k = -1; k <= 97; k++) {
            if (s.cellKind(k) != 0 || s.cellValue(k) != 0) {
                b.append(' ').append(k).append(':').append(s.cellKind(k)).append('/').append(s.cellValue(k));
            }
        }
        b.append(" pending ").append(s.pending()).append(" slots");
        for (int k = -1; k <= 97; k++) {
            if (s.slot(k) != 0) {
                b.append(' ').append(k).append(':').append(s.slot(k));
            }
        }
        b.append(" open ").append(s.openName()).append(" defined");
        for (int x = -1; x <= 9; x++) {
            if (s.defined(x)) {
                b.append(' ').append(x);
            }
        }
        b.append(' ').append(result(s));
        return b.toString();
    }

    static String result(ProductiveStreams s) {
        return "value " + s.value() + " fault " + s.faultName() + "," + s.faultIndex();
    }

    static void dueEval(ProductiveStreams s, int name, int index, int outcome, String result) {
        String call = "eval(" + name + ", " + index + ")";
        due(call, s.eval(name, index), outcome);
        due("the result after " + call, result(s), result);
    }

    static void dueOk(ProductiveStreams s, int name, int index, int value) {
        dueEval(s, name, index, ProductiveStreams.OK, "value " + value + " fault -1,-1");
    }

    static void dueFault(ProductiveStreams s, int name, int index, int outcome, int faultName, int faultIndex) {
        dueEval(s, name, index, outcome, "value 0 fault " + faultName + "," + faultIndex);
    }
}

import java.util.ArrayList;
import java.util.List;
import java.util.function.IntBinaryOperator;
import java.util.function.IntUnaryOperator;

/** The meaning of the language below its table: every small expression against the stream or the number that it means. */
final class MeaningTest {
    private static final int[] A = {3, -7, 1000003, 11, 65537, -123456789, 42, 2147483647};
    private static final int[] B = {-2147483648, 5, 46341, -1, 77, 1 << 30, 999};
    private static final String[] ELEMENT_KINDS = {"ADD", "SUB", "MUL"};
    private static final String[] ZIP_KINDS = {"ZIPADD", "ZIPSUB", "ZIPMUL"};
    private static final IntBinaryOperator[] OPERATORS = {(a, b) -> a + b, (a, b) -> a - b, (a, b) -> a * b};

    private record Stream(String words, IntUnaryOperator at) {
    }

    private record Element(String words, int value) {
    }

    public static void main(String[] args) {
        List<Stream> streams = List.of(new Stream("REF 1", j -> A[j % A.length]), new Stream("REF 2", j -> B[j % B.length]));
        List<Element> elements = List.of(new Element("NUM 5", 5), new Element("NUM -2147483647", -2147483647));
        List<Stream> largerStreams = new ArrayList<>(streams);
        largerStreams.addAll(streamsOf(elements, streams));
        List<Element> largerElements = new ArrayList<>(elements);
        largerElements.addAll(elementsOf(elements, streams));
        Edges.sentence("The language: (REF x)(j) = x(j)", () -> dueStreams(streams));
        Edges.sentence("The language: the meaning of CONS, TAIL, ZIPADD, ZIPSUB and ZIPMUL", () -> dueStreams(streamsOf(largerElements, largerStreams)));
        Edges.sentence("The language: the meaning of NUM, HEAD, ADD, SUB and MUL", () -> dueElements(elementsOf(largerElements, largerStreams)));
        Check.end();
    }

    private static List<Stream> streamsOf(List<Element> elements, List<Stream> streams) {
        List<Stream> made = new ArrayList<>();
        for (Stream s : streams) {
            made.add(new Stream("TAIL " + s.words(), j -> s.at().applyAsInt(j + 1)));
            for (Element e : elements) {
                made.add(new Stream("CONS " + e.words() + " " + s.words(), j -> j == 0 ? e.value() : s.at().applyAsInt(j - 1)));
            }
            for (Stream t : streams) {
                for (int k = 0; k < 3; k++) {
                    IntBinaryOperator operator = OPERATORS[k];
                    made.add(new Stream(ZIP_KINDS[k] + " " + s.words() + " " + t.words(),
                        j -> operator.applyAsInt(s.at().applyAsInt(j), t.at().applyAsInt(j))));
                }
            }
        }
        return made;
    }

    private static List<Element> elementsOf(List<Element> elements, List<Stream> streams) {
        List<Element> made = new ArrayList<>();
        for (Stream s : streams) {
            made.add(new Element("HEAD " + s.words(), s.at().applyAsInt(0)));
        }
        for (Element a : elements) {
            for (Element b : elements) {
                for (int k = 0; k < 3; k++) {
                    made.add(new Element(ELEMENT_KINDS[k] + " " + a.words() + " " + b.words(), OPERATORS[k].applyAsInt(a.value(), b.value())));
                }
            }
        }
        return made;
    }

    private static String repeating(int name, int[] values) {
        StringBuilder b = new StringBuilder("DEF " + name);
        for (int value : values) {
            b.append(" CONS NUM ").append(value);
        }
        return b.append(" REF ").append(name).toString();
    }

    private static ProductiveStreams defined(String words) {
        return Check.system(3, 96, repeating(1, A), "DEF 0 " + words, repeating(2, B));
    }

    private static void dueStreams(List<Stream> streams) {
        for (Stream stream : streams) {
            ProductiveStreams s = defined(stream.words());
            // Two TAILs at most stand above a reference, so nothing is out of range before 30.
            for (int j = 0; j < 30; j++) {
                dueValue(s, stream.words(), j, stream.at().applyAsInt(j));
            }
        }
    }

    private static void dueElements(List<Element> elements) {
        for (Element element : elements) {
            dueValue(defined("CONS " + element.words() + " REF 1"), element.words(), 0, element.value());
            dueValue(defined("CONS NUM 8 CONS NUM 9 CONS " + element.words() + " REF 1"), element.words(), 2, element.value());
        }
    }

    private static void dueValue(ProductiveStreams s, String words, int index, int want) {
        String call = "eval(0, " + index + ") of " + words;
        Check.due(call, s.eval(0, index), ProductiveStreams.OK);
        Check.due("value() after " + call, s.value(), want);
    }
}

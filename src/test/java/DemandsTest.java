import java.util.function.IntUnaryOperator;

/** What the document says of WALK and its demands under 'Evaluation', a test for each sentence. */
final class DemandsTest {
    private static final int NO_DEMAND = -1;
    /** Every element of 1 and of 3 is a black hole, so the fault pair tells the demand; 2 never faults. */
    private static final String[] OTHERS = {"DEF 1 REF 1", "DEF 2 CONS NUM 4 CONS NUM 9 REF 2", "DEF 3 REF 3"};

    public static void main(String[] args) {
        Edges.sentence("Evaluation: NUM n: no demand", () -> {
            due("CONS NUM 7 ?", 0, j -> NO_DEMAND);
            due("CONS ADD NUM 7 NUM 8 ?", 0, j -> NO_DEMAND);
        });
        Edges.sentence("Evaluation: HEAD s: visit s with index 0", DemandsTest::head);
        for (String kind : new String[] {"ADD", "SUB", "MUL"}) {
            Edges.sentence("Evaluation: " + kind + " a b: visit a, then b", () -> element(kind));
        }
        Edges.sentence("Evaluation: CONS e s with index 0: visit e", () -> {
            due("CONS HEAD ? REF 2", 31, j -> j == 0 ? 0 : NO_DEMAND);
            due("TAIL CONS HEAD ? REF 2", 30, j -> NO_DEMAND);
        });
        Edges.sentence("Evaluation: CONS e s with another index: visit s with index j-1", () -> {
            due("CONS NUM 5 ?", 31, j -> j == 0 ? NO_DEMAND : j - 1);
            due("CONS NUM 5 CONS NUM 6 CONS NUM 7 ?", 31, j -> j < 3 ? NO_DEMAND : j - 3);
        });
        Edges.sentence("Evaluation: TAIL s with index j: visit s with index j+1", () -> {
            due("TAIL ?", 30, j -> j + 1);
            due("TAIL TAIL TAIL ?", 28, j -> j + 3);
            due("TAIL CONS NUM 5 ?", 31, j -> j);
            due("CONS NUM 5 TAIL ?", 31, j -> j == 0 ? NO_DEMAND : j);
        });
        for (String kind : new String[] {"ZIPADD", "ZIPSUB", "ZIPMUL"}) {
            Edges.sentence("Evaluation: " + kind + " a b with index j: visit a with j, then b with j", () -> zip(kind));
        }
        Edges.sentence("Evaluation: REF x with index j: demand (x, j)", () -> due("?", 31, j -> j));
        Edges.sentence("Evaluation: element cells are visited only under a CONS visited with index 0 (or under HEAD)", DemandsTest::elementCells);
        Edges.sentence("Evaluation: the demands are an ordered list", DemandsTest::order);
        Check.end();
    }

    private static ProductiveStreams system(String words) {
        return Check.system(4, 96, OTHERS[0], OTHERS[1], "DEF 0 " + words, OTHERS[2]);
    }

    /** The one reference ? is demanded with the wanted index, for every index of the walk up to the last. */
    private static void due(String words, int last, IntUnaryOperator wanted) {
        ProductiveStreams s = system(words.replace("?", "REF 1"));
        for (int j = 0; j <= last; j++) {
            int want = wanted.applyAsInt(j);
            String call = "eval(0, " + j + ") of " + words;
            Check.due(call, s.eval(0, j), want == NO_DEMAND ? ProductiveStreams.OK : ProductiveStreams.BLACKHOLE);
            Check.due("faultName() after " + call, s.faultName(), want == NO_DEMAND ? -1 : 1);
            Check.due("faultIndex() after " + call, s.faultIndex(), want);
        }
    }

    /** Of two references that fault, the first one of the words is told. */
    private static void dueFirst(String words, int index) {
        ProductiveStreams s = system(words.replace("?1", "REF 1").replace("?2", "REF 3"));
        Check.dueFault(s, 0, index, ProductiveStreams.BLACKHOLE, 1, index);
        ProductiveStreams t = system(words.replace("?1", "REF 3").replace("?2", "REF 1"));
        Check.dueFault(t, 0, index, ProductiveStreams.BLACKHOLE, 3, index);
    }

    private static void head() {
        due("CONS HEAD ? REF 2", 31, j -> j == 0 ? 0 : NO_DEMAND);
        due("CONS HEAD TAIL TAIL ? REF 2", 31, j -> j == 0 ? 2 : NO_DEMAND);
        due("CONS HEAD CONS NUM 1 ? REF 2", 31, j -> NO_DEMAND);
        due("CONS HEAD CONS HEAD ? REF 2 REF 2", 31, j -> j == 0 ? 0 : NO_DEMAND);
        due("CONS NUM 1 CONS NUM 1 CONS HEAD ? REF 2", 31, j -> j == 2 ? 0 : NO_DEMAND);
        due("CONS NUM 1 CONS NUM 1 CONS HEAD ZIPADD REF 2 TAIL ? REF 2", 31, j -> j == 2 ? 1 : NO_DEMAND);
    }

    private static void element(String kind) {
        due("CONS " + kind + " HEAD ? NUM 1 REF 2", 31, j -> j == 0 ? 0 : NO_DEMAND);
        due("CONS " + kind + " NUM 1 HEAD ? REF 2", 31, j -> j == 0 ? 0 : NO_DEMAND);
        due("CONS NUM 1 CONS " + kind + " NUM 0 HEAD TAIL ? REF 2", 31, j -> j == 1 ? 1 : NO_DEMAND);
        due("CONS NUM 1 CONS " + kind + " HEAD TAIL ? NUM 0 REF 2", 31, j -> j == 1 ? 1 : NO_DEMAND);
        dueFirst("CONS " + kind + " HEAD ?1 HEAD ?2 REF 2", 0);
        dueFirst("CONS " + kind + " " + kind + " NUM 1 HEAD ?1 HEAD ?2 REF 2", 0);
    }

    private static void zip(String kind) {
        due(kind + " ? REF 2", 31, j -> j);
        due(kind + " REF 2 ?", 31, j -> j);
        due(kind + " TAIL ? REF 2", 30, j -> j + 1);
        due(kind + " REF 2 TAIL ?", 30, j -> j + 1);
        due("TAIL " + kind + " ? CONS NUM 0 REF 2", 30, j -> j + 1);
        due("CONS NUM 1 " + kind + " CONS NUM 0 REF 2 ?", 31, j -> j == 0 ? NO_DEMAND : j - 1);
        for (int j = 0; j < 32; j++) {
            dueFirst(kind + " ?1 ?2", j);
            dueFirst(kind + " " + kind + " REF 2 ?1 ?2", j);
            dueFirst(kind + " REF 2 " + kind + " ?1 ?2", j);
        }
    }

    private static void elementCells() {
        due("CONS ADD NUM 1 SUB NUM 2 MUL NUM 3 HEAD ? REF 2", 31, j -> j == 0 ? 0 : NO_DEMAND);
        due("CONS NUM 1 CONS NUM 1 CONS ADD NUM 1 SUB NUM 2 MUL NUM 3 HEAD ? REF 2", 31, j -> j == 2 ? 0 : NO_DEMAND);
        due("TAIL CONS ADD HEAD ? NUM 1 CONS NUM 1 REF 2", 30, j -> NO_DEMAND);
        due("ZIPADD REF 2 CONS HEAD ? REF 2", 31, j -> j == 0 ? 0 : NO_DEMAND);
        due("CONS HEAD TAIL CONS HEAD ? CONS NUM 1 REF 2 REF 2", 31, j -> NO_DEMAND);
        due("CONS HEAD TAIL CONS NUM 1 CONS HEAD ? REF 2 REF 2", 31, j -> j == 0 ? 0 : NO_DEMAND);
    }

    /** Five references, all of them visited: whichever are holes, the first of them in the words is told. */
    private static void order() {
        String words = "ZIPADD ZIPSUB ?0 CONS SUB HEAD ?1 MUL HEAD ?2 NUM 0 REF 2 ZIPMUL ?3 ?4";
        for (int holes = 1; holes < 32; holes++) {
            String given = words;
            int first = -1;
            for (int k = 0; k < 5; k++) {
                boolean hole = (holes >> k & 1) == 1;
                boolean isFirst = hole && first == -1;
                first = isFirst ? k : first;
                given = given.replace("?" + k, isFirst ? "REF 3" : hole ? "REF 1" : "REF 2");
            }
            Check.dueFault(system(given), 0, 0, ProductiveStreams.BLACKHOLE, 3, 0);
        }
    }
}

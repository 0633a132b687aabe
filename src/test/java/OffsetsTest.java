import java.util.Arrays;

/** What the document says under 'Offsets, edges, walks', a test for each sentence. */
final class OffsetsTest {
    private static final int NONE = ProductiveStreams.NONE;

    /** Where a child may stand: the kind of its parent, the parent's words with ? for the child, and what the child adds to the offset. */
    private static final String[][] STREAM_PLACES = {
        {"the stream child of CONS has CONS's offset minus 1", "CONS NUM 1 ?", "-1"},
        {"the stream child of CONS has CONS's offset minus 1", "CONS HEAD REF 2 ?", "-1"},
        {"the child of TAIL has TAIL's offset plus 1", "TAIL ?", "1"},
        {"the first child of ZIPADD has its parent's offset", "ZIPADD ? REF 2", "0"},
        {"the second child of ZIPADD has its parent's offset", "ZIPADD REF 2 ?", "0"},
        {"the first child of ZIPSUB has its parent's offset", "ZIPSUB ? REF 2", "0"},
        {"the second child of ZIPSUB has its parent's offset", "ZIPSUB REF 2 ?", "0"},
        {"the first child of ZIPMUL has its parent's offset", "ZIPMUL ? REF 2", "0"},
        {"the second child of ZIPMUL has its parent's offset", "ZIPMUL REF 2 ?", "0"},
        {"the element child of CONS and the child of HEAD have their parent's offset", "CONS HEAD ? REF 2", "0"},
        {"the first child of ADD has its parent's offset", "CONS ADD HEAD ? NUM 1 REF 2", "0"},
        {"the second child of ADD has its parent's offset", "CONS ADD NUM 1 HEAD ? REF 2", "0"},
        {"the first child of SUB has its parent's offset", "CONS SUB HEAD ? NUM 1 REF 2", "0"},
        {"the second child of SUB has its parent's offset", "CONS SUB HEAD REF 2 HEAD ? REF 2", "0"},
        {"the first child of MUL has its parent's offset", "CONS MUL HEAD ? HEAD REF 2 REF 2", "0"},
        {"the second child of MUL has its parent's offset", "CONS MUL NUM 1 HEAD ? REF 2", "0"}};

    public static void main(String[] args) {
        Edges.sentence("Offsets: the root has 0", OffsetsTest::root);
        for (String[] place : STREAM_PLACES) {
            Edges.sentence("Offsets: " + place[0], () -> child(place));
        }
        Edges.sentence("Offsets: they add up from the root, whatever stands between", OffsetsTest::addUp);
        Edges.sentence("Edges: each REF x cell in the closed definition of y is an edge from y to x", OffsetsTest::edges);
        Edges.sentence("Edges: several edges may join the same two names", OffsetsTest::severalEdges);
        Edges.sentence("Walks: the first starts at a, each next one where the one before ends, the last ends at b", OffsetsTest::joined);
        Edges.sentence("Walks: an edge may be taken more than once", OffsetsTest::repeated);
        Edges.sentence("Walks: the weight is the sum of the edges' weights", OffsetsTest::sums);
        Edges.sentence("Edges: the open definition, if any, gives no edges", OffsetsTest::open);
        Check.end();
    }

    /** Name 1 is not defined, and 0 has one edge to it: its weight is the offset of the cell. */
    private static void dueOffset(String words, int want) {
        ProductiveStreams s = Check.system(3, 96, "DEF 0 " + words);
        Check.due("the offset of REF 1 in " + words, s.guard(0, 1), want);
    }

    private static void root() {
        for (int name = 0; name < 8; name++) {
            for (int to = 0; to < 8; to++) {
                ProductiveStreams s = Check.system(8, 96, "DEF " + name + " REF " + to);
                Check.due("guard(" + name + ", " + to + ") of a REF that is the root", s.guard(name, to), 0);
            }
        }
    }

    private static void child(String[] place) {
        int added = Integer.parseInt(place[2]);
        for (int depth = 0; depth <= 6; depth++) {
            dueOffset(Check.repeat("TAIL", depth) + place[1].replace("?", "REF 1"), depth + added);
            dueOffset(Check.repeat("CONS NUM 1", depth) + place[1].replace("?", "REF 1"), -depth + added);
            dueOffset(place[1].replace("?", Check.repeat("TAIL", depth) + "REF 1"), depth + added);
            dueOffset(place[1].replace("?", Check.repeat("CONS NUM 1", depth) + "REF 1"), -depth + added);
        }
    }

    private static void addUp() {
        for (String[] outer : STREAM_PLACES) {
            for (String[] middle : STREAM_PLACES) {
                for (String[] inner : STREAM_PLACES) {
                    String words = outer[1].replace("?", middle[1].replace("?", inner[1].replace("?", "REF 1")));
                    dueOffset(words, Integer.parseInt(outer[2]) + Integer.parseInt(middle[2]) + Integer.parseInt(inner[2]));
                }
            }
        }
    }

    /** Seven references in one definition, each to a name of its own and with a weight of its own. */
    private static void edges() {
        ProductiveStreams s = Check.system(8, 96, "DEF 0 ZIPADD TAIL TAIL REF 0 ZIPSUB TAIL REF 1 ZIPMUL REF 2 CONS HEAD TAIL TAIL TAIL REF 3 "
            + "CONS ADD HEAD REF 4 NUM 1 CONS HEAD CONS NUM 1 REF 5 REF 6");
        // The edge from 0 to itself may come first, up to seven times.
        int[] want = {16, 15, 14, 17, 13, 11, 11, NONE};
        for (int to = 0; to < 8; to++) {
            Check.due("guard(0, " + to + ")", s.guard(0, to), want[to]);
            for (int from = 1; from < 8; from++) {
                Check.due("guard(" + from + ", " + to + ")", s.guard(from, to), NONE);
            }
        }
    }

    private static void severalEdges() {
        for (int first = 0; first <= 4; first++) {
            for (int second = 0; second <= 4; second++) {
                for (int third = 0; third <= 4; third++) {
                    String words = "ZIPADD ZIPADD " + Check.repeat("TAIL", first) + "REF 1 " + Check.repeat("TAIL", second) + "REF 1 " + Check.repeat("TAIL", third) + "REF 1";
                    dueOffset(words, Math.max(first, Math.max(second, third)));
                }
            }
        }
    }

    private static void joined() {
        ProductiveStreams s = Check.system(8, 96, "DEF 0 TAIL REF 1", "DEF 1 TAIL TAIL REF 2", "DEF 3 TAIL TAIL TAIL REF 4", "DEF 4 TAIL TAIL TAIL TAIL REF 0");
        int[][] want = new int[8][8];
        for (int[] row : want) {
            Arrays.fill(row, NONE);
        }
        want[0][1] = 1;
        want[0][2] = 3;
        want[1][2] = 2;
        want[3][4] = 3;
        want[3][0] = 7;
        want[3][1] = 8;
        want[3][2] = 10;
        want[4][0] = 4;
        want[4][1] = 5;
        want[4][2] = 7;
        for (int a = 0; a < 8; a++) {
            for (int b = 0; b < 8; b++) {
                Check.due("guard(" + a + ", " + b + ")", s.guard(a, b), want[a][b]);
            }
        }
    }

    private static void repeated() {
        for (int names = 2; names <= 8; names++) {
            ProductiveStreams loop = Check.system(names, 96, "DEF 0 ZIPADD TAIL REF 0 REF 1");
            Check.due("guard(0, 0) of " + names, loop.guard(0, 0), names);
            Check.due("guard(0, 1) of " + names, loop.guard(0, 1), names - 1);
            ProductiveStreams two = Check.system(names, 96, "DEF 0 TAIL REF 1", "DEF 1 TAIL REF 0");
            Check.due("guard(0, 0) of a ring of two among " + names, two.guard(0, 0), names - names % 2);
            Check.due("guard(0, 1) of a ring of two among " + names, two.guard(0, 1), names - 1 + names % 2);
        }
    }

    private static void sums() {
        for (int up = 0; up <= 5; up++) {
            for (int down = 0; down <= 5; down++) {
                ProductiveStreams s = Check.system(3, 96, "DEF 0 " + Check.repeat("TAIL", up) + "REF 1", "DEF 1 " + Check.repeat("CONS NUM 1", down) + "REF 2");
                Check.due("guard(0, 2) of " + up + " up and " + down + " down", s.guard(0, 2), up - down);
                ProductiveStreams t = Check.system(3, 96, "DEF 0 " + Check.repeat("CONS NUM 1", down) + "REF 1", "DEF 1 " + Check.repeat("TAIL", up) + "REF 2");
                Check.due("guard(0, 2) of " + down + " down and " + up + " up", t.guard(0, 2), up - down);
            }
        }
    }

    private static void open() {
        ProductiveStreams s = Check.system(3, 96, "DEF 0 TAIL REF 1", "DEF 1 ZIPADD REF 0 ZIPADD REF 2");
        Check.due("guard(0, 1) while 1 is open", s.guard(0, 1), 1);
        Check.due("guard(1, 0) while 1 is open", s.guard(1, 0), NONE);
        Check.due("guard(1, 2) while 1 is open", s.guard(1, 2), NONE);
        Check.due("guard(0, 2) while 1 is open", s.guard(0, 2), NONE);
        Check.enter(s, "REF 1");
        Check.due("guard(1, 0) when 1 is closed", s.guard(1, 0), 1);
        Check.due("guard(1, 2) when 1 is closed", s.guard(1, 2), 1);
        Check.due("guard(0, 2) when 1 is closed", s.guard(0, 2), 1);
    }
}

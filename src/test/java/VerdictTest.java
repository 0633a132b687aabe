/** Promise 8. */
final class VerdictTest {
    private static final int ACCEPTED = ProductiveStreams.ACCEPTED;
    private static final int OPEN = ProductiveStreams.OPEN;
    private static final int EMPTY = ProductiveStreams.EMPTY;
    private static final int UNDEFINED = ProductiveStreams.UNDEFINED;
    private static final int UNGUARDED = ProductiveStreams.UNGUARDED;

    public static void main(String[] args) {
        due(EMPTY);
        due(OPEN, "DEF 0");
        due(OPEN, "DEF 0 CONS NUM 1");
        due(OPEN, "DEF 0 CONS NUM 1 REF 0", "DEF 1");
        due(OPEN, "DEF 0 REF 2", "DEF 1");
        due(OPEN, "DEF 0 REF 0", "DEF 1 TAIL");

        due(UNDEFINED, "DEF 0 REF 1");
        due(UNDEFINED, "DEF 0 CONS HEAD REF 3 REF 0");
        due(UNDEFINED, "DEF 1 CONS NUM 1 REF 1", "DEF 0 ZIPADD REF 1 CONS NUM 1 REF 2");
        due(UNDEFINED, "DEF 0 ZIPADD REF 0 REF 3");
        due(UNDEFINED, "DEF 0 ZIPADD REF 3 REF 1", "DEF 1 REF 0");

        due(UNGUARDED, "DEF 0 REF 0");
        due(UNGUARDED, "DEF 3 REF 3");
        due(UNGUARDED, "DEF 0 TAIL REF 0");
        due(UNGUARDED, "DEF 0 CONS NUM 1 TAIL REF 0");
        due(UNGUARDED, "DEF 0 CONS HEAD REF 0 REF 0");
        due(UNGUARDED, "DEF 0 CONS HEAD TAIL REF 0 REF 0");
        due(UNGUARDED, "DEF 0 REF 1", "DEF 1 REF 0");
        due(UNGUARDED, "DEF 0 CONS NUM 1 REF 1", "DEF 1 TAIL REF 0");
        due(UNGUARDED, "DEF 0 CONS NUM 1 REF 0", "DEF 2 CONS NUM 1 REF 3", "DEF 3 ZIPADD REF 0 TAIL REF 2");
        due(UNGUARDED, "DEF 0 CONS NUM 1 REF 1", "DEF 1 REF 2", "DEF 2 REF 3", "DEF 3 TAIL REF 0");

        due(ACCEPTED, "DEF 0 CONS NUM 1 REF 0");
        due(ACCEPTED, "DEF 0 CONS NUM 0 CONS NUM 1 ZIPADD REF 0 TAIL REF 0");
        due(ACCEPTED, "DEF 1 CONS NUM 1 REF 1", "DEF 0 TAIL TAIL REF 1");
        due(ACCEPTED, "DEF 0 CONS NUM 1 REF 1", "DEF 1 REF 0");
        due(ACCEPTED, "DEF 0 CONS NUM 1 CONS NUM 2 REF 1", "DEF 1 TAIL REF 0");
        due(ACCEPTED, "DEF 0 CONS NUM 1 CONS NUM 2 REF 1", "DEF 1 REF 2", "DEF 2 REF 3", "DEF 3 TAIL REF 0");
        due(ACCEPTED, "DEF 0 CONS HEAD REF 1 REF 0", "DEF 1 CONS NUM 3 REF 0");

        changing();
        Check.end();
    }

    private static void due(int want, String... definitions) {
        ProductiveStreams s = Check.system(4, 40, definitions);
        String before = Check.view(s);
        String what = "verdict() of " + String.join("; ", definitions);
        Check.due(what, s.verdict(), want);
        Check.due(what + " again", s.verdict(), want);
        Check.due("the object after " + what, Check.view(s), before);
    }

    private static void changing() {
        ProductiveStreams s = Check.system(4, 40, "DEF 0 CONS NUM 4 REF 1");
        Check.due("verdict() before REF 1 is defined", s.verdict(), UNDEFINED);
        Check.enter(s, "DEF 1 CONS NUM 5");
        Check.due("verdict() while REF 1 is open", s.verdict(), OPEN);
        Check.enter(s, "REF 0");
        Check.due("verdict() when REF 1 is defined", s.verdict(), ACCEPTED);
        s.eval(0, 3);
        String before = Check.view(s);
        Check.due("verdict() after eval", s.verdict(), ACCEPTED);
        Check.due("the object after verdict()", Check.view(s), before);
        Check.enter(s, "DEF 2 REF 2");
        Check.due("verdict() with one unguarded name", s.verdict(), UNGUARDED);
        s.eval(2, 3);
        before = Check.view(s);
        Check.due("verdict() after a fault", s.verdict(), UNGUARDED);
        Check.due("the object after verdict() after a fault", Check.view(s), before);
    }
}

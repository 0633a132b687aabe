/** Promise 11. */
final class ResultsTest {
    public static void main(String[] args) {
        ProductiveStreams s = new ProductiveStreams(4, 60);
        due(s, "new", "value 0 fault -1,-1");
        s.eval(0, 0);
        due(s, "after NOTREADY", "value 0 fault -1,-1");
        Check.enter(s, "DEF 0 CONS NUM 17 CONS NUM -4 REF 0");
        due(s, "after a definition", "value 0 fault -1,-1");
        s.eval(0, 32);
        due(s, "after BADARG", "value 0 fault -1,-1");
        s.eval(0, 0);
        due(s, "after OK", "value 17 fault -1,-1");
        unchangedByOthers(s, "value 17 fault -1,-1");
        s.eval(0, 5);
        due(s, "after the next OK", "value -4 fault -1,-1");
        Check.enter(s, "DEF 1 REF 1");
        s.eval(1, 6);
        due(s, "after BLACKHOLE", "value 0 fault 1,6");
        unchangedByOthers(s, "value 0 fault 1,6");
        Check.enter(s, "DEF 2 TAIL TAIL REF 2");
        s.eval(2, 3);
        due(s, "after RANGE", "value 0 fault 2,33");
        unchangedByOthers(s, "value 0 fault 2,33");
        s.eval(1, 0);
        due(s, "after the next BLACKHOLE", "value 0 fault 1,0");
        s.eval(0, 2);
        due(s, "after OK again", "value 17 fault -1,-1");
        s.eval(2, 2);
        due(s, "after RANGE again", "value 0 fault 2,32");
        s.begin(3);
        s.eval(0, 0);
        due(s, "after NOTREADY while open", "value 0 fault 2,32");
        s.reset();
        due(s, "after reset", "value 0 fault -1,-1");
        Check.end();
    }

    private static void due(ProductiveStreams s, String when, String want) {
        Check.due(when, Check.result(s), want);
        Check.due(when + ", read again", Check.result(s), want);
    }

    private static void unchangedByOthers(ProductiveStreams s, String want) {
        s.begin(0);
        due(s, "after a refused begin", want);
        s.begin(9);
        due(s, "after begin of a bad name", want);
        s.token(ProductiveStreams.REF, 0);
        due(s, "after a refused token", want);
        s.verdict();
        due(s, "after verdict()", want);
        s.guard(0, 0);
        s.guard(0, 3);
        s.guard(-1, 9);
        due(s, "after guard", want);
        s.eval(0, -1);
        s.eval(3, 0);
        s.eval(4, 0);
        s.eval(-1, 0);
        due(s, "after a refused eval", want);
        s.pending();
        s.slot(0);
        s.openName();
        s.defined(0);
        s.used();
        s.cellKind(0);
        s.cellValue(0);
        due(s, "after the other readings", want);
    }
}

/** Promise 6. */
final class NamesTest {
    public static void main(String[] args) {
        ProductiveStreams s = new ProductiveStreams(5, 40);
        dueNames(s, "new", -1);
        Check.enter(s, "DEF 4");
        dueNames(s, "4 open", 4);
        Check.enter(s, "CONS NUM 1");
        dueNames(s, "4 still open", 4);
        Check.enter(s, "REF 4");
        dueNames(s, "4 closed", -1, 4);
        Check.enter(s, "DEF 0 TAIL");
        dueNames(s, "0 open", 0, 4);
        s.begin(1);
        dueNames(s, "begin refused", 0, 4);
        Check.enter(s, "REF 2");
        dueNames(s, "0 closed", -1, 0, 4);
        s.begin(5);
        s.begin(-1);
        dueNames(s, "bad names refused", -1, 0, 4);
        s.reset();
        dueNames(s, "reset", -1);
        ProductiveStreams most = Check.system(8, 40, "DEF 7 REF 7", "DEF 0 REF 0");
        dueNames(most, "eight names", -1, 0, 7);
        Check.end();
    }

    private static void dueNames(ProductiveStreams s, String what, int open, int... defined) {
        Check.due("openName(), " + what, s.openName(), open);
        int[] names = {Integer.MIN_VALUE, -8, -1, 0, 1, 2, 3, 4, 5, 6, 7, 8, 9, 32, 96, Integer.MAX_VALUE};
        for (int name : names) {
            boolean want = false;
            for (int d : defined) {
                want = want || d == name;
            }
            Check.due("defined(" + name + "), " + what, s.defined(name), want);
        }
        Check.due("openName() again, " + what, s.openName(), open);
    }
}

/** Systems of all sizes up to the largest, made with fixed seeds: every judgement and every element against the solution. */
final class LargeSystemsTest {
    private static final int SYSTEMS = 1500;
    private static long seed;
    private static int tails;
    private static int conses;
    private static int leaves;
    private static int names;
    private static final int[] outcomes = new int[3];
    private static final int[] verdicts = new int[5];

    public static void main(String[] args) {
        for (int number = 0; number < SYSTEMS && !Check.anyWrong(); number++) {
            seed = 0x5851F42D4C957F2DL * (number + 1);
            oneSystem();
        }
        Check.due("OK met often", outcomes[0] > 10000, true);
        Check.due("BLACKHOLE met often", outcomes[1] > 10000, true);
        Check.due("RANGE met often", outcomes[2] > 10000, true);
        Check.due("ACCEPTED met often", verdicts[ProductiveStreams.ACCEPTED] > 200, true);
        Check.due("UNGUARDED met often", verdicts[ProductiveStreams.UNGUARDED] > 200, true);
        Check.end();
    }

    private static int below(int bound) {
        seed = seed * 6364136223846793005L + 1442695040888963407L;
        return (int) ((seed >>> 33) % bound);
    }

    private static void oneSystem() {
        names = 1 + below(8);
        tails = below(4);
        conses = 1 + below(10);
        leaves = below(3);
        boolean guarded = below(3) != 0;
        ProductiveStreams s = new ProductiveStreams(names, 96);
        StringBuilder words = new StringBuilder();
        int first = below(names);
        for (int k = 0; k < names; k++) {
            int x = (first + k) % names;
            int room = (96 - s.used()) / (names - k) - 1;
            // A CONS before the rest of a definition, so that many of the systems are accepted.
            String start = guarded && room > 2 ? "CONS " + literal() + " " : "";
            String definition = "DEF " + x + " " + start + stream(room - (start.isEmpty() ? 0 : 2));
            Check.enter(s, definition);
            words.append(definition).append(' ');
        }
        due(s, new Solution(names, words.toString()), words.toString());
    }

    private static String literal() {
        return "NUM " + (below(4) == 0 ? (int) (seed >>> 17) : below(9) - 4);
    }

    private static String stream(int room) {
        if (room < 3 || below(8) < leaves) {
            return room == 2 && below(8) < tails ? "TAIL REF " + below(names) : "REF " + below(names);
        }
        int choice = below(tails + conses + 8);
        if (choice < tails) {
            return "TAIL " + stream(room - 1);
        }
        int first = 1 + below(room - 2);
        int second = room - 1 - first;
        if (choice < tails + conses) {
            return "CONS " + element(first) + " " + stream(second);
        }
        String[] kinds = {"ZIPADD ", "ZIPSUB ", "ZIPMUL "};
        return kinds[below(3)] + stream(first) + " " + stream(second);
    }

    private static String element(int room) {
        if (room < 2 || below(8) < leaves) {
            return literal();
        }
        if (room < 3 || below(3) == 0) {
            return "HEAD " + stream(room - 1);
        }
        int first = 1 + below(room - 2);
        String[] kinds = {"ADD ", "SUB ", "MUL "};
        return kinds[below(3)] + element(first) + " " + element(room - 1 - first);
    }

    private static void due(ProductiveStreams s, Solution solution, String words) {
        int verdict = s.verdict();
        verdicts[verdict]++;
        Check.due("verdict() of " + words, verdict, solution.guarded() ? ProductiveStreams.ACCEPTED : ProductiveStreams.UNGUARDED);
        for (int a = 0; a < names; a++) {
            for (int b = 0; b < names; b++) {
                Check.due("guard(" + a + ", " + b + ") of " + words, s.guard(a, b), solution.guard(a, b));
            }
            for (int j = 0; j < 32; j++) {
                int outcome = s.eval(a, j);
                outcomes[outcome]++;
                String got = outcome + " " + s.value() + " " + s.faultName() + " " + s.faultIndex();
                Check.due("eval(" + a + ", " + j + ") of " + words, got, solution.element(a, j));
                if (verdict == ProductiveStreams.ACCEPTED) {
                    dueAccepted(outcome, "eval(" + a + ", " + j + ") of " + words);
                }
            }
        }
    }

    private static void dueAccepted(int outcome, String call) {
        Check.due(call + " is BLACKHOLE, and the system is accepted", outcome == ProductiveStreams.BLACKHOLE, false);
        if (!call.contains("TAIL")) {
            Check.due(call + ", and the system is accepted and without TAIL", outcome, ProductiveStreams.OK);
        }
    }
}

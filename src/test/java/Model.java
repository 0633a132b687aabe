import java.util.ArrayList;
import java.util.HashSet;
import java.util.List;
import java.util.Set;

/**
 * The document's words once more, as plainly as they can be said: trees, recursion and every walk tried.
 * It shares no way of working with the class, so that the two are unlikely to be wrong alike.
 */
final class Model {
    private static final String[] CHILDREN = {"", "", "S", "EE", "EE", "EE", "ES", "S", "SS", "SS", "SS", ""};

    private record Edge(int from, int to, int weight) {
    }

    /** An evaluation or a judgement that takes more steps than a test can wait for. */
    static final class TooLong extends RuntimeException {
        private static final long serialVersionUID = 1L;
    }

    private static final class Fault extends RuntimeException {
        private static final long serialVersionUID = 1L;
        final int outcome;
        final int name;
        final int index;

        Fault(int outcome, int name, int index) {
            super(null, null, false, false);
            this.outcome = outcome;
            this.name = name;
            this.index = index;
        }
    }

    private final int names;
    private final int cells;
    private final List<int[]> cell = new ArrayList<>();
    private String slots = "";
    private int open = -1;
    private final Set<Integer> defined = new HashSet<>();
    private int value = 0;
    private int faultName = -1;
    private int faultIndex = -1;
    private int steps;

    Model(int names, int cells) {
        this.names = names < 1 ? 1 : names > 8 ? 8 : names;
        this.cells = cells < 16 ? 16 : cells > 96 ? 96 : cells;
    }

    void reset() {
        cell.clear();
        slots = "";
        open = -1;
        defined.clear();
        value = 0;
        faultName = -1;
        faultIndex = -1;
    }

    boolean begin(int name) {
        if (open != -1 || name < 0 || name >= names || defined.contains(name) || cell.size() == cells) {
            return false;
        }
        cell.add(new int[] {12, name});
        open = name;
        slots = "S";
        return true;
    }

    boolean token(int kind, int v) {
        if (kind < 1 || kind > 11 || open == -1) {
            return false;
        }
        char sort = kind < 6 ? 'E' : 'S';
        if (sort != slots.charAt(0) || kind == 11 && (v < 0 || v >= names) || cell.size() == cells) {
            return false;
        }
        cell.add(new int[] {kind, kind == 1 || kind == 11 ? v : 0});
        slots = CHILDREN[kind] + slots.substring(1);
        if (slots.isEmpty()) {
            defined.add(open);
            open = -1;
        }
        return true;
    }

    /** Takes the words that Check.enter takes. */
    void enter(String words) {
        String[] word = words.trim().split("\\s+");
        for (int at = 0; at < word.length; at++) {
            int kind = Check.kind(word[at]);
            boolean valued = kind == 1 || kind == 11 || kind == 12;
            int v = valued ? Integer.parseInt(word[++at]) : 0;
            if (!(kind == 12 ? begin(v) : token(kind, v))) {
                throw new IllegalArgumentException(words);
            }
        }
    }

    int value() {
        return value;
    }

    int faultName() {
        return faultName;
    }

    int faultIndex() {
        return faultIndex;
    }

    int pending() {
        return slots.length();
    }

    int slot(int k) {
        return k < 0 || k >= slots.length() ? 0 : slots.charAt(k) == 'E' ? 1 : 2;
    }

    String view() {
        StringBuilder b = new StringBuilder("used " + cell.size() + " cells");
        for (int k = 0; k < cell.size(); k++) {
            b.append(" " + k + ":" + cell.get(k)[0] + "/" + cell.get(k)[1]);
        }
        b.append(" pending " + pending() + " slots");
        for (int k = 0; k < pending(); k++) {
            b.append(" " + k + ":" + slot(k));
        }
        b.append(" open " + open + " defined");
        for (int x = 0; x < names; x++) {
            b.append(defined.contains(x) ? " " + x : "");
        }
        return b + " value " + value + " fault " + faultName + "," + faultIndex;
    }

    int verdict() {
        int refusal = refusal();
        if (refusal != 0) {
            return refusal;
        }
        for (int x : defined) {
            if (guard(x, x) >= 0) {
                return 4;
            }
        }
        return 0;
    }

    private int refusal() {
        if (open != -1) {
            return 1;
        }
        if (defined.isEmpty()) {
            return 2;
        }
        for (int[] c : cell) {
            if (c[0] == 11 && !defined.contains(c[1])) {
                return 3;
            }
        }
        return 0;
    }

    private int header(int name) {
        for (int k = 0; k < cell.size(); k++) {
            if (cell.get(k)[0] == 12 && cell.get(k)[1] == name) {
                return k;
            }
        }
        throw new IllegalStateException();
    }

    /** The cell after the expression that starts at k. */
    private int after(int k) {
        int next = k + 1;
        for (int child = 0; child < CHILDREN[cell.get(k)[0]].length(); child++) {
            next = after(next);
        }
        return next;
    }

    private void gatherEdges(int from, int k, int offset, List<Edge> edges) {
        int kind = cell.get(k)[0];
        if (kind == 11) {
            edges.add(new Edge(from, cell.get(k)[1], offset));
        }
        int child = k + 1;
        for (int number = 0; number < CHILDREN[kind].length(); number++) {
            int shift = kind == 7 ? 1 : kind == 6 && number == 1 ? -1 : 0;
            gatherEdges(from, child, offset + shift, edges);
            child = after(child);
        }
    }

    int guard(int a, int b) {
        if (a < 0 || a >= names || b < 0 || b >= names) {
            return -1000000;
        }
        List<Edge> edges = new ArrayList<>();
        for (int x : defined) {
            gatherEdges(x, header(x) + 1, 0, edges);
        }
        steps = 0;
        return greatest(a, b, names, 0, edges);
    }

    private int greatest(int at, int goal, int left, int weight, List<Edge> edges) {
        int best = -1000000;
        if (left == 0) {
            return best;
        }
        for (Edge e : edges) {
            if (e.from() == at) {
                step();
                int sum = weight + e.weight();
                if (e.to() == goal && sum > best) {
                    best = sum;
                }
                int further = greatest(e.to(), goal, left - 1, sum, edges);
                best = further > best ? further : best;
            }
        }
        return best;
    }

    private void step() {
        if (++steps > 20000) {
            throw new TooLong();
        }
    }

    int eval(int name, int index) {
        if (refusal() != 0) {
            return 3;
        }
        if (name < 0 || name >= names || index < 0 || index >= 32 || !defined.contains(name)) {
            return 4;
        }
        steps = 0;
        try {
            value = pair(name, index, new HashSet<>());
            faultName = -1;
            faultIndex = -1;
            return 0;
        } catch (Fault f) {
            value = 0;
            faultName = f.name;
            faultIndex = f.index;
            return f.outcome;
        }
    }

    private int pair(int name, int index, Set<Integer> path) {
        step();
        int key = name * 1000 + index;
        if (path.contains(key)) {
            throw new Fault(1, name, index);
        }
        if (index >= 32) {
            throw new Fault(2, name, index);
        }
        path.add(key);
        int made = visit(header(name) + 1, index, path);
        path.remove(key);
        return made;
    }

    private int visit(int k, int index, Set<Integer> path) {
        int first = k + 1;
        switch (cell.get(k)[0]) {
            case 1: return cell.get(k)[1];
            case 2: return visit(first, 0, path);
            case 6: return index == 0 ? visit(first, 0, path) : visit(after(first), index - 1, path);
            case 7: return visit(first, index + 1, path);
            case 11: return pair(cell.get(k)[1], index, path);
            default: break;
        }
        int a = visit(first, index, path);
        int b = visit(after(first), index, path);
        switch (cell.get(k)[0]) {
            case 3: case 8: return a + b;
            case 4: case 9: return a - b;
            default: return a * b;
        }
    }
}

import java.util.ArrayList;
import java.util.Arrays;
import java.util.List;

/**
 * The answers due from a whole system at once, however many demands it makes. A pair is OK if and only if all its
 * demands are, so the OK pairs are gathered until no more are found; from any other pair the first demands that are
 * not OK lead to its fault.
 */
final class Solution {
    private static final int LIMIT = 32;
    private static final int NONE = -1000000;

    private record Node(int kind, int value, List<Node> children) {
    }

    private final int names;
    private final Node[] roots;
    private final Integer[][] made;
    private final int[][] guards;

    /** The words are those of all definitions; every name that they refer to is defined in them. */
    Solution(int names, String words) {
        this.names = names;
        roots = new Node[names];
        made = new Integer[names][LIMIT];
        List<String> left = new ArrayList<>(List.of(words.trim().split("\\s+")));
        while (!left.isEmpty()) {
            left.remove(0);
            int name = Integer.parseInt(left.remove(0));
            roots[name] = parse(left);
        }
        guards = guards();
        gather();
    }

    private static Node parse(List<String> left) {
        String word = left.remove(0);
        int kind = Check.kind(word);
        if (kind == 1 || kind == 11) {
            return new Node(kind, Integer.parseInt(left.remove(0)), List.of());
        }
        List<Node> children = new ArrayList<>();
        children.add(parse(left));
        if (kind != 2 && kind != 7) {
            children.add(parse(left));
        }
        return new Node(kind, 0, children);
    }

    private int[][] noWeights() {
        int[][] weights = new int[names][names];
        for (int[] row : weights) {
            Arrays.fill(row, NONE);
        }
        return weights;
    }

    private void gatherEdges(Node node, int from, int offset, int[][] edges) {
        if (node.kind() == 11) {
            edges[from][node.value()] = Math.max(edges[from][node.value()], offset);
        }
        for (int k = 0; k < node.children().size(); k++) {
            int shift = node.kind() == 7 ? 1 : node.kind() == 6 && k == 1 ? -1 : 0;
            gatherEdges(node.children().get(k), from, offset + shift, edges);
        }
    }

    private int[][] guards() {
        int[][] edges = noWeights();
        for (int x = 0; x < names; x++) {
            if (roots[x] != null) {
                gatherEdges(roots[x], x, 0, edges);
            }
        }
        int[][] best = edges;
        int[][] exact = edges;
        for (int length = 2; length <= names; length++) {
            exact = product(exact, edges);
            best = greater(best, exact);
        }
        return best;
    }

    private int[][] product(int[][] first, int[][] second) {
        int[][] sum = noWeights();
        for (int a = 0; a < names; a++) {
            for (int b = 0; b < names; b++) {
                for (int c = 0; c < names; c++) {
                    if (first[a][c] != NONE && second[c][b] != NONE) {
                        sum[a][b] = Math.max(sum[a][b], first[a][c] + second[c][b]);
                    }
                }
            }
        }
        return sum;
    }

    private int[][] greater(int[][] first, int[][] second) {
        int[][] best = noWeights();
        for (int a = 0; a < names; a++) {
            for (int b = 0; b < names; b++) {
                best[a][b] = Math.max(first[a][b], second[a][b]);
            }
        }
        return best;
    }

    private void gather() {
        boolean found = true;
        while (found) {
            found = false;
            for (int x = 0; x < names; x++) {
                for (int j = 0; j < LIMIT; j++) {
                    if (roots[x] != null && made[x][j] == null && firstBad(x, j) == null) {
                        made[x][j] = value(roots[x], j);
                        found = true;
                    }
                }
            }
        }
    }

    private int[] firstBad(int name, int index) {
        List<int[]> demands = new ArrayList<>();
        gatherDemands(roots[name], index, demands);
        for (int[] demand : demands) {
            if (demand[1] >= LIMIT || made[demand[0]][demand[1]] == null) {
                return demand;
            }
        }
        return null;
    }

    private static void gatherDemands(Node node, int index, List<int[]> demands) {
        List<Node> children = node.children();
        switch (node.kind()) {
            case 2 -> gatherDemands(children.get(0), 0, demands);
            case 6 -> gatherDemands(children.get(index == 0 ? 0 : 1), index == 0 ? 0 : index - 1, demands);
            case 7 -> gatherDemands(children.get(0), index + 1, demands);
            case 11 -> demands.add(new int[] {node.value(), index});
            default -> children.forEach(child -> gatherDemands(child, index, demands));
        }
    }

    private int value(Node node, int index) {
        List<Node> children = node.children();
        return switch (node.kind()) {
            case 1 -> node.value();
            case 2 -> value(children.get(0), 0);
            case 3, 8 -> value(children.get(0), index) + value(children.get(1), index);
            case 4, 9 -> value(children.get(0), index) - value(children.get(1), index);
            case 5, 10 -> value(children.get(0), index) * value(children.get(1), index);
            case 6 -> index == 0 ? value(children.get(0), 0) : value(children.get(1), index - 1);
            case 7 -> value(children.get(0), index + 1);
            default -> made[node.value()][index];
        };
    }

    int guard(int a, int b) {
        return guards[a][b];
    }

    boolean guarded() {
        for (int x = 0; x < names; x++) {
            if (guards[x][x] >= 0) {
                return false;
            }
        }
        return true;
    }

    /** The outcome of an evaluation, and what it leaves: "outcome value faultName faultIndex". */
    String element(int name, int index) {
        if (made[name][index] != null) {
            return "0 " + made[name][index] + " -1 -1";
        }
        List<String> path = new ArrayList<>();
        int[] at = {name, index};
        while (at[1] < LIMIT && !path.contains(Arrays.toString(at))) {
            path.add(Arrays.toString(at));
            at = firstBad(at[0], at[1]);
        }
        return (at[1] < LIMIT ? "1" : "2") + " 0 " + at[0] + " " + at[1];
    }
}

import java.util.ArrayDeque;
import java.util.ArrayList;
import java.util.Arrays;
import java.util.Deque;
import java.util.HashSet;
import java.util.List;
import java.util.Set;

/**
 * The document's terms taken at their words, without any of the program's shortcuts: rows of
 * symbols are replaced from the left in all ways. Of use for small grammars and inputs alone.
 */
final class Naive {
    /** Thrown when trying all ways would take too long to be worth it. */
    static final class TooLong extends RuntimeException {
        private static final long serialVersionUID = 1L;
    }

    private static final int MOST_STEPS = 20000;

    private final int[][][] rules;

    Naive(int[][][] rules) {
        this.rules = rules;
    }

    /** A row of symbols that has come to a place of the input. */
    private record State(List<Integer> row, int place) {}

    private static List<Integer> replaced(int[] alternative, List<Integer> row) {
        List<Integer> next = new ArrayList<>();
        for (int symbol : alternative) {
            next.add(symbol);
        }
        next.addAll(row.subList(1, row.size()));
        return next;
    }

    static List<Integer> rowOf(int[] symbols, List<Integer> behind) {
        List<Integer> row = new ArrayList<>();
        for (int symbol : symbols) {
            row.add(symbol);
        }
        row.addAll(behind);
        return row;
    }

    /** All that a row can become by replacing from the left. */
    private Set<State> all(List<Integer> row, int place, int[] input) {
        Set<State> seen = new HashSet<>();
        Deque<State> open = new ArrayDeque<>();
        open.add(new State(row, place));
        while (!open.isEmpty()) {
            State state = open.pop();
            if (!seen.add(state)) {
                continue;
            }
            if (seen.size() > MOST_STEPS) {
                throw new TooLong();
            }
            if (state.row().isEmpty()) {
                continue;
            }
            int front = state.row().get(0);
            if (front < 0) {
                for (int[] alternative : rules[-1 - front]) {
                    open.push(new State(replaced(alternative, state.row()), state.place()));
                }
            } else if (state.place() < input.length && input[state.place()] == front) {
                List<Integer> rest = state.row().subList(1, state.row().size());
                open.push(new State(new ArrayList<>(rest), state.place() + 1));
            }
        }
        return seen;
    }

    int reach(List<Integer> row, int place, int[] input) {
        int best = place;
        for (State state : all(row, place, input)) {
            boolean fits = state.row().isEmpty() && state.place() == input.length;
            best = Math.max(best, fits ? input.length + 1 : state.place());
        }
        return best;
    }

    int reach(int[] input) {
        return reach(List.of(-1), 0, input);
    }

    long expected(int place, int[] input, int tokens) {
        if (reach(input) < place) {
            return 0;
        }
        int[] before = Arrays.copyOf(input, place);
        long found = reach(before) == place + 1 ? 1L << 32 : 0;
        for (int t = 0; t < tokens; t++) {
            int[] other = Arrays.copyOf(before, place + 1);
            other[place] = t;
            found |= reach(other) > place ? 1L << t : 0;
        }
        return found;
    }

    boolean isNothing(int rule) {
        return isNothing(List.of(-1 - rule), rules.length);
    }

    /** In a least tree of nothing no rule stands below itself: so the depth has an end. */
    private boolean isNothing(List<Integer> row, int depth) {
        for (int symbol : row) {
            boolean found = false;
            for (int k = 0; symbol < 0 && depth > 0 && k < rules[-1 - symbol].length; k++) {
                found |= isNothing(rowOf(rules[-1 - symbol][k], List.of()), depth - 1);
            }
            if (!found) {
                return false;
            }
        }
        return true;
    }

    /** The tokens in front before any has been taken away. */
    long first(List<Integer> row) {
        long found = 0;
        for (State state : all(row, 0, new int[0])) {
            if (!state.row().isEmpty() && state.row().get(0) >= 0) {
                found |= 1L << state.row().get(0);
            }
        }
        return found;
    }

    long[] following() {
        long[] sets = new long[rules.length];
        sets[0] = 1L << 32;
        long[] before = null;
        while (!Arrays.equals(before, sets)) {
            before = sets.clone();
            for (int rule = 0; rule < rules.length; rule++) {
                for (int[] alternative : rules[rule]) {
                    follow(rule, alternative, sets);
                }
            }
        }
        return sets;
    }

    private void follow(int rule, int[] alternative, long[] sets) {
        for (int k = 0; k < alternative.length; k++) {
            if (alternative[k] < 0) {
                int[] rest = Arrays.copyOfRange(alternative, k + 1, alternative.length);
                List<Integer> behind = rowOf(rest, List.of());
                int x = -1 - alternative[k];
                sets[x] |= first(behind);
                sets[x] |= isNothing(behind, rules.length + 1) ? sets[rule] : 0;
            }
        }
    }

    int lets(int rule, int t, long following) {
        int found = 0;
        for (int k = 0; k < rules[rule].length; k++) {
            List<Integer> row = rowOf(rules[rule][k], List.of());
            boolean follows = isNothing(row, rules.length + 1) && (following >>> t & 1) != 0;
            found |= (first(row) >>> t & 1) != 0 || follows ? 1 << k : 0;
        }
        return found;
    }

    /** The fault, and behind it the faulty rule. */
    int[] fault() {
        if (rules.length == 0) {
            return new int[] {1, -1};
        }
        for (int kind = 2; kind <= 4; kind++) {
            for (int rule = 0; rule < rules.length; rule++) {
                if (hasFault(rule, kind)) {
                    return new int[] {kind, rule};
                }
            }
        }
        return new int[] {0, -1};
    }

    private boolean hasFault(int rule, int kind) {
        if (kind == 3) {
            return rules[rule].length == 0;
        }
        if (kind == 4) {
            return leftOf(rule, new HashSet<>()).contains(rule);
        }
        for (int[] alternative : rules[rule]) {
            for (int symbol : alternative) {
                if (symbol < 0 && -1 - symbol >= rules.length) {
                    return true;
                }
            }
        }
        return false;
    }

    private Set<Integer> leftOf(int rule, Set<Integer> found) {
        for (int[] alternative : rules[rule]) {
            for (int k = 0; k < alternative.length && alternative[k] < 0; k++) {
                int x = -1 - alternative[k];
                if (found.add(x)) {
                    leftOf(x, found);
                }
                if (!isNothing(x)) {
                    break;
                }
            }
        }
        return found;
    }

    /** A node with the symbols that are to come behind it. */
    static final class Node {
        int rule;
        int alternative;
        int begin;
        int end;
        int above;
        int below;
        int look;
        List<Integer> behind;
    }

    private int steps;
    private int trees;
    private List<Integer> firstTree;

    /** How many trees; the alternatives of the first one, in the order of nodes, are kept. */
    int trees(int[] input) {
        steps = 0;
        trees = 0;
        firstTree = null;
        derive(List.of(-1), 0, input, new ArrayList<>());
        return trees;
    }

    private void derive(List<Integer> row, int place, int[] input, List<Integer> chosen) {
        steps++;
        if (steps > MOST_STEPS) {
            throw new TooLong();
        }
        if (row.isEmpty()) {
            if (place == input.length) {
                trees++;
                firstTree = firstTree == null ? new ArrayList<>(chosen) : firstTree;
            }
            return;
        }
        int front = row.get(0);
        if (front >= 0) {
            if (place < input.length && input[place] == front) {
                derive(row.subList(1, row.size()), place + 1, input, chosen);
            }
            return;
        }
        for (int k = 0; k < rules[-1 - front].length; k++) {
            chosen.add(k);
            derive(replaced(rules[-1 - front][k], row), place, input, chosen);
            chosen.remove(chosen.size() - 1);
        }
    }

    /** The nodes of the first tree that `trees` has found. */
    List<Node> nodes(int[] input) {
        List<Node> nodes = new ArrayList<>();
        build(0, -1, 0, List.of(), nodes, input);
        return nodes;
    }

    private int build(
            int rule, int above, int begin, List<Integer> behind, List<Node> nodes, int[] input) {
        Node node = new Node();
        int number = nodes.size();
        node.rule = rule;
        node.alternative = firstTree.get(number);
        node.begin = begin;
        node.above = above;
        node.behind = behind;
        nodes.add(node);
        int[] symbols = rules[rule][node.alternative];
        int place = begin;
        for (int k = 0; k < symbols.length; k++) {
            if (symbols[k] >= 0) {
                place++;
            } else {
                node.below++;
                int[] rest = Arrays.copyOfRange(symbols, k + 1, symbols.length);
                place = build(-1 - symbols[k], number, place, rowOf(rest, behind), nodes, input);
            }
        }
        node.end = place;
        node.look = look(node, input);
        return place;
    }

    private int look(Node node, int[] input) {
        if (rules[node.rule].length == 1) {
            return 0;
        }
        int greatest = 0;
        for (int k = 0; k < rules[node.rule].length; k++) {
            if (k != node.alternative) {
                List<Integer> row = rowOf(rules[node.rule][k], node.behind);
                greatest = Math.max(greatest, reach(row, node.begin, input) - node.begin);
            }
        }
        return Math.min(greatest + 1, input.length - node.begin + 1);
    }
}

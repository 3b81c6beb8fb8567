import java.math.BigInteger;
import java.util.Arrays;
import java.util.List;

/**
 * Grammars up to 16 rules, 8 alternatives and 8 symbols with inputs up to 60 tokens, mostly such
 * as the grammar itself can make, against the answers of Memo.
 */
public final class WideTest {
    private static final int GRAMMARS = 500;
    private static final int MOST_NODES = 2000;
    private static final BigInteger MOST_TREES = BigInteger.valueOf(1000000000);

    private static long seed = 61;
    private static int right;
    private static int parsed;
    private static int veryMany;
    private static int tooLarge;
    private static int full;

    public static void main(String[] args) {
        FirstTrees x = null;
        for (int g = 0; g < GRAMMARS; g++) {
            int[][][] rules = grammar();
            // Every other grammar takes the place of another one: nothing of that may be left.
            if (g % 2 == 0) {
                x = new FirstTrees();
            }
            x.clear();
            add(x, rules);
            if (x.fault() == 0) {
                right++;
                for (int n = 0; n < 3; n++) {
                    compare(x, rules, input(rules));
                }
            }
        }
        System.out.println(right + " right grammars, " + parsed + " inputs with a tree, " + veryMany
                + " with very many, " + tooLarge + " with too large a first one, " + full
                + " of 60 tokens");
        Checks.due("enough inputs with a tree", parsed > 300, true);
        Checks.due("enough inputs with very many", veryMany > 30, true);
        Checks.due("enough inputs with too large a tree", tooLarge > 5, true);
        Checks.due("enough full inputs", full > 100, true);
        Checks.end();
    }

    /** The same numbers in each run. */
    private static int pick(int n) {
        seed = seed * 6364136223846793005L + 1442695040888963407L;
        return (int) ((seed >>> 33) % n);
    }

    private static int[][][] grammar() {
        if (pick(10) == 0) {
            return grammarOfLargeTrees();
        }
        int size = 1 + pick(16);
        int tokens = 1 + pick(pick(3) == 0 ? 32 : 3);
        int shortest = pick(2);
        int[][][] rules = new int[size][][];
        for (int rule = 0; rule < size; rule++) {
            rules[rule] = new int[1 + pick(pick(3) == 0 ? 8 : 3)][];
            for (int k = 0; k < rules[rule].length; k++) {
                int length = Math.min(8, shortest + pick(pick(4) == 0 ? 9 : 4));
                rules[rule][k] = new int[length];
                for (int at = 0; at < length; at++) {
                    rules[rule][k][at] = symbol(rule, size, tokens, at);
                }
            }
        }
        return rules;
    }

    /** Rows of later rules alone, so that even short inputs have trees of some thousand nodes. */
    private static int[][][] grammarOfLargeTrees() {
        int size = 4 + pick(4);
        int[][][] rules = new int[size][1 + pick(2)][];
        rules[size - 1] = new int[][] {{}, {pick(3)}};
        for (int rule = 0; rule < size - 1; rule++) {
            for (int k = 0; k < rules[rule].length; k++) {
                rules[rule][k] = new int[3 + pick(6)];
                for (int at = 0; at < rules[rule][k].length; at++) {
                    boolean isNext = pick(2) == 0;
                    int later = isNext ? rule + 1 : rule + 1 + pick(size - rule - 1);
                    rules[rule][k][at] = -1 - later;
                }
            }
        }
        return rules;
    }

    /** A rule before it only behind a token, so that most grammars are right. */
    private static int symbol(int rule, int size, int tokens, int at) {
        if (at > 0 && pick(3) == 0) {
            return -1 - pick(size);
        }
        boolean isLater = rule + 1 < size && pick(2) == 0;
        return isLater ? -1 - (rule + 1 + pick(size - rule - 1)) : pick(tokens);
    }

    private static void add(FirstTrees x, int[][][] rules) {
        for (int rule = 0; rule < rules.length; rule++) {
            x.rule();
        }
        for (int rule = 0; rule < rules.length; rule++) {
            for (int[] alternative : rules[rule]) {
                x.alternative(rule);
                for (int symbol : alternative) {
                    x.symbol(rule, symbol);
                }
            }
        }
    }

    /** What rule 0 makes by picked alternatives, cut at 60 tokens, now and then made wrong. */
    private static int[] input(int[][][] rules) {
        int[] made = new int[60];
        int size = 0;
        int[] stack = new int[4000];
        int depth = 0;
        stack[depth++] = -1;
        for (int step = 0; step < 3000 && depth > 0 && size < 60; step++) {
            int symbol = stack[--depth];
            if (symbol >= 0) {
                made[size++] = symbol;
                continue;
            }
            int[][] of = rules[-1 - symbol];
            int[] alternative = of[pick(of.length)];
            for (int at = alternative.length - 1; at >= 0 && depth < 3990; at--) {
                stack[depth++] = alternative[at];
            }
        }
        if (size > 0 && pick(3) == 0) {
            made[pick(size)] = pick(32);
        }
        return Arrays.copyOf(made, size);
    }

    private static void compare(FirstTrees x, int[][][] rules, int[] input) {
        x.keep(0);
        for (int t : input) {
            x.token(t);
        }
        full += input.length == 60 ? 1 : 0;
        String name = Arrays.deepToString(rules) + Arrays.toString(input) + ": ";
        Memo memo = new Memo(rules, input);
        int reach = memo.reach();
        Checks.due(name + "reach()", x.reach(), reach);
        compareExpected(x, rules, input, Math.min(reach, input.length), name);
        compareExpected(x, rules, input, pick(input.length + 1), name);
        if (reach <= input.length) {
            Checks.due(name + "parse()", x.parse(), 0);
            Checks.due(name + "nodes()", x.nodes(), 0);
        } else {
            compareTree(x, memo, name);
        }
    }

    private static void compareExpected(
            FirstTrees x, int[][][] rules, int[] input, int place, String name) {
        long want = Memo.expected(rules, input, place);
        Checks.due(name + "expected(" + place + ")", x.expected(place), want);
    }

    private static void compareTree(FirstTrees x, Memo memo, String name) {
        List<int[]> nodes = memo.firstTree(MOST_NODES);
        if (nodes == null) {
            tooLarge++;
            int before = x.nodes();
            Checks.dueThrow(name + "parse()", Checks.FULL, () -> x.parse());
            Checks.due(name + "nodes() of the tree before", x.nodes(), before);
            return;
        }
        parsed++;
        BigInteger trees = memo.trees();
        veryMany += trees.compareTo(MOST_TREES) > 0 ? 1 : 0;
        Checks.due(name + "parse()", x.parse(), trees.min(MOST_TREES).intValue());
        Checks.due(name + "nodes()", x.nodes(), nodes.size());
        for (int i = 0; i < Math.min(nodes.size(), x.nodes()); i++) {
            int[] facts = new int[7];
            for (int what = 0; what <= 6; what++) {
                facts[what] = x.node(i, what);
            }
            if (!Arrays.equals(facts, nodes.get(i))) {
                String want = Arrays.toString(nodes.get(i));
                Checks.due(name + "node " + i, Arrays.toString(facts), want);
            }
        }
    }
}

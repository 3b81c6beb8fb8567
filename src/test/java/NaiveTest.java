import java.util.Arrays;
import java.util.List;

/** All answers on many small grammars and inputs, against those of Naive. */
public final class NaiveTest {
    private static final int GRAMMARS = 20000;
    private static final int TOKENS = 3;

    private static long seed = 20240601;
    private static int right;
    private static int parsed;
    private static int several;
    private static int skipped;

    public static void main(String[] args) {
        FirstTrees x = null;
        for (int g = 0; g < GRAMMARS; g++) {
            int[][][] rules = grammar();
            // Every other grammar takes the place of another one: nothing of that may be left.
            if (g % 2 == 0) {
                x = new FirstTrees();
            }
            x.clear();
            add(x, rules);
            compare(x, rules);
        }
        System.out.println(right + " right grammars, " + parsed + " inputs with a tree, " + several
                + " with several, " + skipped + " too long");
        Checks.due("enough right grammars", right > 4000, true);
        Checks.due("enough inputs with a tree", parsed > 2000, true);
        Checks.due("enough inputs with several", several > 500, true);
        Checks.end();
    }

    /** The same numbers in each run. */
    private static int pick(int n) {
        seed = seed * 6364136223846793005L + 1442695040888963407L;
        return (int) ((seed >>> 33) % n);
    }

    private static int[][][] grammar() {
        int size = 1 + pick(5);
        int wrong = pick(8) == 0 ? 1 : 0;
        int[][][] rules = new int[size][][];
        for (int rule = 0; rule < size; rule++) {
            rules[rule] = new int[1 + pick(3) - (pick(40) == 0 ? 1 : 0)][];
            for (int k = 0; k < rules[rule].length; k++) {
                rules[rule][k] = new int[pick(4)];
                for (int at = 0; at < rules[rule][k].length; at++) {
                    rules[rule][k][at] = pick(2) == 0 ? pick(TOKENS) : symbol(rule, size + wrong);
                }
            }
        }
        return rules;
    }

    /** Mostly a later rule, so that enough grammars are right. */
    private static int symbol(int rule, int size) {
        boolean isLater = rule + 1 < size && pick(4) != 0;
        return -1 - (isLater ? rule + 1 + pick(size - rule - 1) : pick(size));
    }

    private static void add(FirstTrees x, int[][][] rules) {
        for (int rule = 0; rule < rules.length; rule++) {
            x.rule();
        }
        for (int rule = 0; rule < rules.length; rule++) {
            for (int[] alternative : rules[rule]) {
                x.alternative(rule);
                for (int symbol : alternative) {
                    x.symbol(rule, symbol);
                }
            }
        }
    }

    private static void compare(FirstTrees x, int[][][] rules) {
        Naive naive = new Naive(rules);
        String name = Arrays.deepToString(rules) + ": ";
        int[] fault = naive.fault();
        Checks.due(name + "fault()", x.fault(), fault[0]);
        Checks.due(name + "faulty()", x.faulty(), fault[1]);
        if (fault[0] != 0) {
            return;
        }
        right++;
        compareSets(x, naive, rules, name);
        for (int n = 0; n < 3; n++) {
            int[] input = new int[pick(7)];
            x.keep(0);
            for (int place = 0; place < input.length; place++) {
                input[place] = pick(pick(2) + 2);
                x.token(input[place]);
            }
            try {
                compareInput(x, naive, input, name + Arrays.toString(input) + ": ");
            } catch (Naive.TooLong e) {
                skipped++;
            }
        }
    }

    private static void compareSets(FirstTrees x, Naive naive, int[][][] rules, String name) {
        long[] following = naive.following();
        for (int rule = 0; rule < rules.length; rule++) {
            String of = "(" + rule + ")";
            Checks.due(name + "isNothing" + of, x.isNothing(rule), naive.isNothing(rule));
            Checks.due(name + "first" + of, x.first(rule), naive.first(List.of(-1 - rule)));
            Checks.due(name + "following" + of, x.following(rule), following[rule]);
            for (int t = 0; t <= 32; t = t == TOKENS ? 32 : t + 1) {
                int want = naive.lets(rule, t, following[rule]);
                Checks.due(name + "lets" + of + t, x.lets(rule, t), want);
            }
        }
    }

    private static void compareInput(FirstTrees x, Naive naive, int[] input, String name) {
        Checks.due(name + "reach()", x.reach(), naive.reach(input));
        for (int place = 0; place <= input.length; place++) {
            long want = naive.expected(place, input, TOKENS + 1);
            Checks.due(name + "expected(" + place + ")", x.expected(place), want);
        }
        int trees = naive.trees(input);
        Checks.due(name + "parse()", x.parse(), trees);
        if (trees == 0) {
            Checks.due(name + "nodes()", x.nodes(), 0);
            return;
        }
        parsed++;
        several += trees > 1 ? 1 : 0;
        List<Naive.Node> nodes = naive.nodes(input);
        Checks.due(name + "nodes()", x.nodes(), nodes.size());
        for (int i = 0; i < Math.min(nodes.size(), x.nodes()); i++) {
            compareNode(x, i, nodes.get(i), name);
        }
    }

    private static void compareNode(FirstTrees x, int i, Naive.Node node, String name) {
        int[] want = {
            node.rule, node.alternative, node.begin, node.end, node.above, node.below, node.look
        };
        for (int what = 0; what < want.length; what++) {
            Checks.due(name + "node(" + i + ", " + what + ")", x.node(i, what), want[what]);
        }
    }
}

import java.math.BigInteger;
import java.util.ArrayList;
import java.util.Arrays;
import java.util.HashMap;
import java.util.List;
import java.util.Map;

/**
 * Answers for grammars and inputs of any size, found another way than the program finds them: a
 * row of symbols is read from its front, symbol by symbol, with the set of all places to which it
 * has come; what a rule does from a place is found when it is asked for, and kept. Trees are
 * counted without any limit.
 */
final class Memo {
    /** To which places (bits) a rule or a row comes from a place, and how far it takes tokens. */
    private record Run(long fits, int far) {}

    private final int[][][] rules;
    private final int[] input;
    private final Map<Integer, Run> runs = new HashMap<>();
    private final Map<Integer, BigInteger[]> ways = new HashMap<>();

    Memo(int[][][] rules, int[] input) {
        this.rules = rules;
        this.input = input;
    }

    private Run run(int rule, int place) {
        int key = rule * 64 + place;
        Run known = runs.get(key);
        if (known != null) {
            return known;
        }
        long fits = 0;
        int far = place;
        for (int[] alternative : rules[rule]) {
            Run one = run(listOf(alternative, 0), place);
            fits |= one.fits();
            far = Math.max(far, one.far());
        }
        Run found = new Run(fits, far);
        runs.put(key, found);
        return found;
    }

    private Run run(List<Integer> row, int place) {
        long places = 1L << place;
        int far = place;
        for (int symbol : row) {
            long next = 0;
            for (int at = place; at <= input.length; at++) {
                if ((places >>> at & 1) == 0) {
                    continue;
                }
                if (symbol < 0) {
                    Run one = run(-1 - symbol, at);
                    next |= one.fits();
                    far = Math.max(far, one.far());
                } else if (at < input.length && input[at] == symbol) {
                    next |= 1L << (at + 1);
                    far = Math.max(far, at + 1);
                }
            }
            places = next;
        }
        return new Run(places, far);
    }

    private static List<Integer> listOf(int[] symbols, int from) {
        List<Integer> list = new ArrayList<>();
        for (int k = from; k < symbols.length; k++) {
            list.add(symbols[k]);
        }
        return list;
    }

    int reach(List<Integer> row, int place) {
        Run found = run(row, place);
        return (found.fits() >>> input.length & 1) != 0 ? input.length + 1 : found.far();
    }

    int reach() {
        return reach(List.of(-1), 0);
    }

    /** How many trees a rule has from a place to each place. */
    private BigInteger[] ways(int rule, int place) {
        int key = rule * 64 + place;
        BigInteger[] known = ways.get(key);
        if (known != null) {
            return known;
        }
        BigInteger[] sum = none();
        for (int[] alternative : rules[rule]) {
            BigInteger[] here = none();
            here[place] = BigInteger.ONE;
            for (int symbol : alternative) {
                here = behind(here, symbol);
            }
            for (int to = 0; to <= input.length; to++) {
                sum[to] = sum[to].add(here[to]);
            }
        }
        ways.put(key, sum);
        return sum;
    }

    private BigInteger[] none() {
        BigInteger[] all = new BigInteger[input.length + 1];
        Arrays.fill(all, BigInteger.ZERO);
        return all;
    }

    private BigInteger[] behind(BigInteger[] here, int symbol) {
        BigInteger[] next = none();
        for (int at = 0; at <= input.length; at++) {
            if (here[at].signum() == 0) {
                continue;
            }
            if (symbol >= 0) {
                if (at < input.length && input[at] == symbol) {
                    next[at + 1] = next[at + 1].add(here[at]);
                }
                continue;
            }
            BigInteger[] of = ways(-1 - symbol, at);
            for (int to = at; to <= input.length; to++) {
                next[to] = next[to].add(here[at].multiply(of[to]));
            }
        }
        return next;
    }

    BigInteger trees() {
        return ways(0, 0)[input.length];
    }

    /** By setting each token in turn in the place of those that are there. */
    static long expected(int[][][] rules, int[] input, int place) {
        if (new Memo(rules, input).reach() < place) {
            return 0;
        }
        int[] before = Arrays.copyOf(input, place);
        long found = new Memo(rules, before).reach() == place + 1 ? 1L << 32 : 0;
        for (int t = 0; t < 32; t++) {
            int[] other = Arrays.copyOf(before, place + 1);
            other[place] = t;
            found |= new Memo(rules, other).reach() > place ? 1L << t : 0;
        }
        return found;
    }

    /** The facts of each node of the first tree; null when they are more than `most`. */
    List<int[]> firstTree(int most) {
        List<int[]> nodes = new ArrayList<>();
        return build(0, -1, 0, List.of(), nodes, most) < 0 ? null : nodes;
    }

    /** The node's end, or -1 when there are too many nodes. */
    private int build(
            int rule, int above, int begin, List<Integer> behind, List<int[]> nodes, int most) {
        if (nodes.size() == most) {
            return -1;
        }
        int chosen = 0;
        while (reach(joined(rules[rule][chosen], 0, behind), begin) <= input.length) {
            chosen++;
        }
        int[] node = {rule, chosen, begin, 0, above, 0, look(rule, chosen, begin, behind)};
        int number = nodes.size();
        nodes.add(node);
        int[] symbols = rules[rule][chosen];
        int place = begin;
        for (int k = 0; k < symbols.length; k++) {
            if (symbols[k] >= 0) {
                place++;
                continue;
            }
            node[5]++;
            List<Integer> toCome = joined(symbols, k + 1, behind);
            place = build(-1 - symbols[k], number, place, toCome, nodes, most);
            if (place < 0) {
                return -1;
            }
        }
        node[3] = place;
        return place;
    }

    private static List<Integer> joined(int[] symbols, int from, List<Integer> behind) {
        List<Integer> row = listOf(symbols, from);
        row.addAll(behind);
        return row;
    }

    private int look(int rule, int chosen, int begin, List<Integer> behind) {
        if (rules[rule].length == 1) {
            return 0;
        }
        int greatest = 0;
        for (int k = 0; k < rules[rule].length; k++) {
            if (k != chosen) {
                int reach = reach(joined(rules[rule][k], 0, behind), begin);
                greatest = Math.max(greatest, reach - begin);
            }
        }
        return Math.min(greatest + 1, input.length - begin + 1);
    }
}

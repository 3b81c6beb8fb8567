/** Promises 10 to 12: how many trees, the first one, and its nodes with their looks. */
public final class ParseTest {
    private static final Class<UnsupportedOperationException> TOO_MANY =
            UnsupportedOperationException.class;

    public static void main(String[] args) {
        plainTrees();
        firstOfSeveral();
        looks();
        treeGoesAndComes();
        numbersOfTrees();
        mostTrees();
        mostNodes();
        deepTree();
        ruleThatNeverEnds();
        wrongNodes();
        Checks.end();
    }

    private static void due(String grammar, String input, int trees, String tree) {
        FirstTrees x = Checks.of(grammar, input);
        String name = grammar + " on '" + input + "'";
        Checks.due(name + ": parse()", x.parse(), trees);
        Checks.due(name + ": tree", Checks.treeOf(x), tree);
        Checks.due(name + ": parse() again", x.parse(), trees);
        Checks.due(name + ": tree again", Checks.treeOf(x), tree);
    }

    private static void plainTrees() {
        due("A=", "", 1, "A0:0-0^-1/0?0");
        due("A=", "a", 0, "");
        due("A=a", "a", 1, "A0:0-1^-1/0?0");
        due("A=a", "b", 0, "");
        due("A=a", "", 0, "");
        due("A=a", "aa", 0, "");
        due("A=aBcB B=b|", "abc", 1, "A0:0-3^-1/2?0 B0:1-2^0/0?1 B1:3-3^0/0?1");
        due("A=BC B=a C=b", "ab", 1, "A0:0-2^-1/2?0 B0:0-1^0/0?0 C0:1-2^0/0?0");
    }

    private static void firstOfSeveral() {
        // The alternative of the node with the lesser number counts before any at a later one.
        due("A=BB B=a|aa|", "aa", 3, "A0:0-2^-1/2?0 B0:0-1^0/0?3 B0:1-2^0/0?2");
        due("A=BB B=aa|a|", "aa", 3, "A0:0-2^-1/2?0 B0:0-2^0/0?3 B2:2-2^0/0?1");
        due("A=BB B=|a|aa", "aa", 3, "A0:0-2^-1/2?0 B0:0-0^0/0?3 B2:0-2^0/0?2");
        // The lesser alternative leads nowhere, as is seen only behind the rule.
        due("A=Bb B=a|aa", "aab", 1, "A0:0-3^-1/1?0 B1:0-2^0/0?2");
        // Two alternatives that are the same are two.
        due("A=a|a|a", "a", 3, "A0:0-1^-1/0?2");
        // Where a node ends does not make it first, only alternatives do.
        due("A=BD B=C C=aa|a D=a|aa|", "aa", 2,
                "A0:0-2^-1/2?0 B0:0-2^0/1?0 C0:0-2^1/0?3 D2:2-2^0/0?1");
        due("A=BD B=C C=a|aa D=a|aa|", "aa", 2,
                "A0:0-2^-1/2?0 B0:0-1^0/1?0 C0:0-1^1/0?3 D0:1-2^0/0?2");
    }

    private static void looks() {
        due("A=ab|ac", "ac", 1, "A1:0-2^-1/0?2");
        due("A=ab|ac|c", "ab", 1, "A0:0-2^-1/0?2");
        due("A=c|ab", "ab", 1, "A1:0-2^-1/0?1");
        // Not more than the tokens that are left and 1.
        due("A=a|ab", "a", 1, "A0:0-1^-1/0?2");
        due("A=aB B=|b", "a", 1, "A0:0-1^-1/1?0 B0:1-1^0/0?1");
        due("A=|", "", 2, "A0:0-0^-1/0?1");
        // What is to come is followed, behind the nodes above too.
        due("A=CcA| B=b|bb C=Bd", "bdc", 1,
                "A0:0-3^-1/2?1 C0:0-2^0/1?0 B0:0-1^1/0?2 A1:3-3^0/0?1");
        due("A=Cdd B=b|bd C=Bd", "bddd", 1, "A0:0-4^-1/1?0 C0:0-2^0/1?0 B0:0-1^1/0?5");
        due("A=Cddc B=b|bd C=Bd", "bdddc", 1, "A0:0-5^-1/1?0 C0:0-2^0/1?0 B0:0-1^1/0?5");
        // A rule that never ends takes tokens away all the same.
        due("A=aaab|B B=aB", "aaab", 1, "A0:0-4^-1/0?4");
    }

    private static void treeGoesAndComes() {
        FirstTrees x = Checks.of("A=aA|b", "ab");
        Checks.due("parse() of ab", x.parse(), 1);
        Checks.due("nodes() of ab", x.nodes(), 2);
        x.keep(1);
        Checks.due("nodes() before parse()", x.nodes(), 2);
        Checks.due("parse() of a", x.parse(), 0);
        Checks.due("nodes() of a", x.nodes(), 0);
        Checks.dueThrow("node(0, 0) of a", IndexOutOfBoundsException.class, () -> x.node(0, 0));
        Checks.addTokens(x, "ab");
        Checks.due("parse() of aab", x.parse(), 1);
        Checks.due("nodes() of aab", x.nodes(), 3);
        x.rule();
        Checks.dueThrowOnly("parse() with a rule without alternative",
                IllegalStateException.class, x, () -> x.parse());
        Checks.due("nodes() then", x.nodes(), 3);
    }

    private static void numbersOfTrees() {
        int[] catalan = {1, 1, 2, 5, 14, 42, 132, 429, 1430, 4862};
        FirstTrees x = Checks.of("A=aAA|a");
        for (int n = 0; n < catalan.length; n++) {
            Checks.setInput(x, "a".repeat(2 * n + 1));
            Checks.due("A=aAA|a on " + (2 * n + 1), x.parse(), catalan[n]);
            Checks.due("its nodes", x.nodes(), 2 * n + 1);
        }
        Checks.setInput(x, "aa");
        Checks.due("A=aAA|a on 2", x.parse(), 0);
    }

    /** A grammar whose only input, the empty one, has just so many trees: a rule for each digit. */
    private static FirstTrees withTrees(long trees) {
        String digits = Long.toOctalString(trees);
        FirstTrees x = new FirstTrees();
        int eight = digits.length();
        for (int rule = 0; rule <= eight; rule++) {
            x.rule();
        }
        for (int k = 0; k < 8; k++) {
            x.alternative(eight);
        }
        for (int rule = 0; rule < eight; rule++) {
            if (rule < eight - 1) {
                x.alternative(rule);
                x.symbol(rule, -1 - eight);
                x.symbol(rule, -1 - (rule + 1));
            }
            for (int k = 0; k < digits.charAt(eight - 1 - rule) - '0'; k++) {
                x.alternative(rule);
            }
        }
        return x;
    }

    private static void mostTrees() {
        long most = 1000000000L;
        for (long trees : new long[] {1, 8, 4095, most - 1, most, most + 1, 8 * most + 5}) {
            FirstTrees x = withTrees(trees);
            Checks.due("parse() with " + trees + " trees", x.parse(), Math.min(most, trees));
        }
        FirstTrees x = Checks.of("A=BBBBBBBB B=aB|", "a".repeat(60));
        Checks.due("parse() of 60 tokens in 8 parts", x.parse(), 869648208);
        FirstTrees more = Checks.of("A=BBBBBBBB B=CC C=aC|", "a".repeat(60));
        Checks.due("parse() of 60 tokens in 16 parts", more.parse(), most);
        // 8 to the 64th: more than a long can hold.
        FirstTrees much = Checks.of("A=BBBBBBBB B=CCCCCCCC C=|||||||");
        Checks.due("parse() with very many trees", much.parse(), most);
    }

    private static void mostNodes() {
        // L has 1 node, A 9, B 73, C 585; E, D and S add up to 2000.
        String grammar = "A=EEEB B=DDDC C=FFGGGGG D=FFFFFFFF E=DDDDDDDD F=GGGGGGGG G=|a";
        FirstTrees x = Checks.of(grammar);
        Checks.due("parse() of 2000 nodes", x.parse(), 1);
        Checks.due("2000 nodes", x.nodes(), 2000);
        Checks.due("the last node's rule", x.node(1999, 0), 6);
        Checks.dueThrow("node(2000, 0)", IndexOutOfBoundsException.class, () -> x.node(2000, 0));
        x.symbol(2, -7);
        Checks.dueThrowOnly("parse() of 2001 nodes", TOO_MANY, x, () -> x.parse());
        Checks.due("the tree before stays", x.nodes(), 2000);
        x.clear();
        Checks.addRules(x, "A=BBBBBBBB B=CCCCCCCC C=DDDDDDDD D=EEEEEEEE E=|a");
        Checks.dueThrowOnly("parse() of 4681 nodes", TOO_MANY, x, () -> x.parse());
        x.token(0);
        Checks.dueThrowOnly("parse() of 4681 nodes and a token", TOO_MANY, x, () -> x.parse());
        x.token(1);
        Checks.due("parse() without a tree takes the tree away", x.parse(), 0);
        Checks.due("nodes() then", x.nodes(), 0);
    }

    private static void deepTree() {
        FirstTrees x = new FirstTrees();
        for (int rule = 0; rule < 16; rule++) {
            x.rule();
            x.alternative(rule);
            x.symbol(rule, rule < 15 ? -2 - rule : 0);
        }
        x.symbol(15, -1);
        x.symbol(15, 1);
        x.alternative(15);
        Checks.addTokens(x, "a".repeat(30) + "b".repeat(30));
        Checks.due("parse() of a deep tree", x.parse(), 1);
        Checks.due("nodes of a deep tree", x.nodes(), 31 * 16);
        Checks.due("the deepest node's begin", x.node(495, 2), 30);
        Checks.due("the deepest node's end", x.node(495, 3), 30);
        Checks.due("the deepest node's above", x.node(495, 4), 494);
        Checks.due("the deepest node's look", x.node(495, 6), 1);
        Checks.due("another node's end", x.node(16 * 7 + 3, 3), 53);
        Checks.due("the first node's end", x.node(0, 3), 60);
        Checks.due("reach()", x.reach(), 61);
        // 27 symbols for each token are to come at the deepest node.
        FirstTrees y = Checks.of("A=BEEEEEEE| B=CEEEEEEE C=DEEEEEEE D=aAEEEEEE E=|b", "a".repeat(60));
        Checks.due("parse() with much to come", y.parse(), 1);
        Checks.due("nodes with much to come", y.nodes(), 60 * 31 + 1);
        Checks.due("the last node's begin", y.node(1860, 2), 60);
        Checks.due("the last node's above", y.node(1860, 4), 0);
    }

    private static void ruleThatNeverEnds() {
        due("A=aA", "aaa", 0, "");
        due("A=B|aa B=aB", "aa", 1, "A1:0-2^-1/0?3");
    }

    private static void wrongNodes() {
        FirstTrees x = Checks.of("A=aA|b", "ab");
        x.parse();
        Class<IndexOutOfBoundsException> noNode = IndexOutOfBoundsException.class;
        Class<IllegalArgumentException> noWhat = IllegalArgumentException.class;
        Checks.dueThrowOnly("node(2, 0)", noNode, x, () -> x.node(2, 0));
        Checks.dueThrowOnly("node(-1, 0)", noNode, x, () -> x.node(-1, 0));
        Checks.dueThrowOnly("node(2, 7)", noNode, x, () -> x.node(2, 7));
        Checks.dueThrowOnly("node(greatest, -1)", noNode, x, () -> x.node(Integer.MAX_VALUE, -1));
        Checks.dueThrowOnly("node(1, 7)", noWhat, x, () -> x.node(1, 7));
        Checks.dueThrowOnly("node(0, -1)", noWhat, x, () -> x.node(0, -1));
        Checks.due("node(0, 4)", x.node(0, 4), FirstTrees.NONE);
    }
}

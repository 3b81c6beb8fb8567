/** Promises 10 to 12: how many trees, the first one, and its nodes with their looks. */
public final class ParseTest {
    public static void main(String[] args) {
        plainTrees();
        firstOfSeveral();
        looks();
        treeGoesAndComes();
        numbersOfTrees();
        deepTree();
        ruleThatNeverEnds();
        Checks.end();
    }

    private static void due(String grammar, String input, int trees, String tree) {
        FirstTrees x = Checks.of(grammar, input);
        String name = grammar + " on '" + input + "'";
        Checks.due(name + ": parse()", x.parse(), trees);
        Checks.due(name + ": tree", Checks.treeOf(x), tree);
        Checks.due(name + ": parse() again", x.parse(), trees);
        Checks.due(name + ": tree again", Checks.treeOf(x), tree);
    }

    private static void plainTrees() {
        due("A=", "", 1, "A0:0-0^-1/0?0");
        due("A=", "a", 0, "");
        due("A=a", "a", 1, "A0:0-1^-1/0?0");
        due("A=a", "b", 0, "");
        due("A=a", "", 0, "");
        due("A=a", "aa", 0, "");
        due("A=aBcB B=b|", "abc", 1, "A0:0-3^-1/2?0 B0:1-2^0/0?1 B1:3-3^0/0?1");
        due("A=BC B=a C=b", "ab", 1, "A0:0-2^-1/2?0 B0:0-1^0/0?0 C0:1-2^0/0?0");
    }

    private static void firstOfSeveral() {
        // The alternative of the node with the lesser number counts before any at a later one.
        due("A=BB B=a|aa|", "aa", 3, "A0:0-2^-1/2?0 B0:0-1^0/0?3 B0:1-2^0/0?2");
        due("A=BB B=aa|a|", "aa", 3, "A0:0-2^-1/2?0 B0:0-2^0/0?3 B2:2-2^0/0?1");
        due("A=BB B=|a|aa", "aa", 3, "A0:0-2^-1/2?0 B0:0-0^0/0?3 B2:0-2^0/0?2");
        // The lesser alternative leads nowhere, as is seen only behind the rule.
        due("A=Bb B=a|aa", "aab", 1, "A0:0-3^-1/1?0 B1:0-2^0/0?2");
        // Two alternatives that are the same are two.
        due("A=a|a|a", "a", 3, "A0:0-1^-1/0?2");
        // Where a node ends does not make it first, only alternatives do.
        due("A=BD B=C C=aa|a D=a|aa|", "aa", 2,
                "A0:0-2^-1/2?0 B0:0-2^0/1?0 C0:0-2^1/0?3 D2:2-2^0/0?1");
        due("A=BD B=C C=a|aa D=a|aa|", "aa", 2,
                "A0:0-2^-1/2?0 B0:0-1^0/1?0 C0:0-1^1/0?3 D0:1-2^0/0?2");
    }

    private static void looks() {
        due("A=ab|ac", "ac", 1, "A1:0-2^-1/0?2");
        due("A=ab|ac|c", "ab", 1, "A0:0-2^-1/0?2");
        due("A=c|ab", "ab", 1, "A1:0-2^-1/0?1");
        // Not more than the tokens that are left and 1.
        due("A=a|ab", "a", 1, "A0:0-1^-1/0?2");
        due("A=aB B=|b", "a", 1, "A0:0-1^-1/1?0 B0:1-1^0/0?1");
        due("A=|", "", 2, "A0:0-0^-1/0?1");
        // What is to come is followed, behind the nodes above too.
        due("A=CcA| B=b|bb C=Bd", "bdc", 1,
                "A0:0-3^-1/2?1 C0:0-2^0/1?0 B0:0-1^1/0?2 A1:3-3^0/0?1");
        due("A=Cdd B=b|bd C=Bd", "bddd", 1, "A0:0-4^-1/1?0 C0:0-2^0/1?0 B0:0-1^1/0?5");
        due("A=Cddc B=b|bd C=Bd", "bdddc", 1, "A0:0-5^-1/1?0 C0:0-2^0/1?0 B0:0-1^1/0?5");
        // A rule that never ends takes tokens away all the same.
        due("A=aaab|B B=aB", "aaab", 1, "A0:0-4^-1/0?4");
    }

    private static void treeGoesAndComes() {
        FirstTrees x = Checks.of("A=aA|b", "ab");
        Checks.due("parse() of ab", x.parse(), 1);
        Checks.due("nodes() of ab", x.nodes(), 2);
        x.keep(1);
        Checks.due("nodes() before parse()", x.nodes(), 2);
        Checks.due("parse() of a", x.parse(), 0);
        Checks.due("nodes() of a", x.nodes(), 0);
        Checks.dueThrow("node(0, 0) of a", Checks.INDEX, () -> x.node(0, 0));
        Checks.addTokens(x, "ab");
        Checks.due("parse() of aab", x.parse(), 1);
        Checks.due("nodes() of aab", x.nodes(), 3);
        x.rule();
        Checks.dueThrowOnly("parse() with a rule without alternative",
                Checks.STATE, x, () -> x.parse());
        Checks.due("nodes() then", x.nodes(), 3);
    }

    private static void numbersOfTrees() {
        int[] catalan = {1, 1, 2, 5, 14, 42, 132, 429, 1430, 4862};
        FirstTrees x = Checks.of("A=aAA|a");
        for (int n = 0; n < catalan.length; n++) {
            Checks.setInput(x, "a".repeat(2 * n + 1));
            Checks.due("A=aAA|a on " + (2 * n + 1), x.parse(), catalan[n]);
            Checks.due("its nodes", x.nodes(), 2 * n + 1);
        }
        Checks.setInput(x, "aa");
        Checks.due("A=aAA|a on 2", x.parse(), 0);
    }

    private static void deepTree() {
        FirstTrees x = new FirstTrees();
        for (int rule = 0; rule < 16; rule++) {
            x.rule();
            x.alternative(rule);
            x.symbol(rule, rule < 15 ? -2 - rule : 0);
        }
        x.symbol(15, -1);
        x.symbol(15, 1);
        x.alternative(15);
        Checks.addTokens(x, "a".repeat(30) + "b".repeat(30));
        Checks.due("parse() of a deep tree", x.parse(), 1);
        Checks.due("nodes of a deep tree", x.nodes(), 31 * 16);
        Checks.due("the deepest node's begin", x.node(495, 2), 30);
        Checks.due("the deepest node's end", x.node(495, 3), 30);
        Checks.due("the deepest node's above", x.node(495, 4), 494);
        Checks.due("the deepest node's look", x.node(495, 6), 1);
        Checks.due("another node's end", x.node(16 * 7 + 3, 3), 53);
        Checks.due("the first node's end", x.node(0, 3), 60);
        Checks.due("reach()", x.reach(), 61);
        // 27 symbols for each token are to come at the deepest node.
        String much = "A=BEEEEEEE| B=CEEEEEEE C=DEEEEEEE D=aAEEEEEE E=|b";
        FirstTrees y = Checks.of(much, "a".repeat(60));
        Checks.due("parse() with much to come", y.parse(), 1);
        Checks.due("nodes with much to come", y.nodes(), 60 * 31 + 1);
        Checks.due("the last node's begin", y.node(1860, 2), 60);
        Checks.due("the last node's above", y.node(1860, 4), 0);
    }

    private static void ruleThatNeverEnds() {
        due("A=aA", "aaa", 0, "");
        due("A=B|aa B=aB", "aa", 1, "A1:0-2^-1/0?3");
    }
}

/** Promises 8 and 9: the input. */
public final class InputTest {
    public static void main(String[] args) {
        tokens();
        full();
        keep();
        treeStays();
        Checks.end();
    }

    private static void tokens() {
        FirstTrees x = new FirstTrees();
        Checks.due("token(0)", x.token(0), 1);
        Checks.due("token(31)", x.token(31), 2);
        Checks.dueThrowOnly("token(32)", Checks.ARGUMENT, x, () -> x.token(32));
        Checks.dueThrowOnly("token(-1)", Checks.ARGUMENT, x, () -> x.token(-1));
        Checks.dueThrowOnly("token(least)", Checks.ARGUMENT, x, () -> x.token(Integer.MIN_VALUE));
        Checks.dueThrowOnly("token(greatest)", Checks.ARGUMENT, x,
                () -> x.token(Integer.MAX_VALUE));
        x.rule();
        x.alternative(0);
        x.symbol(0, 0);
        x.symbol(0, 31);
        Checks.due("parse() of tokens 0, 31", x.parse(), 1);
    }

    private static void full() {
        FirstTrees x = Checks.of("A=aA|");
        for (int n = 1; n <= 60; n++) {
            Checks.due("token(0)", x.token(0), n);
        }
        Checks.dueThrowOnly("the 61st token", Checks.FULL, x,
                () -> x.token(0));
        Checks.dueThrowOnly("a wrong 61st token", Checks.ARGUMENT, x, () -> x.token(32));
        Checks.due("parse() of 60", x.parse(), 1);
        Checks.due("nodes() of 60", x.nodes(), 61);
        x.keep(59);
        Checks.due("room again", x.token(1), 60);
    }

    private static void keep() {
        FirstTrees x = Checks.of("A=aA|b", "aab");
        x.keep(3);
        Checks.due("keep(3): count(1)", x.count(1), 3);
        Checks.dueThrowOnly("keep(4)", Checks.ARGUMENT, x, () -> x.keep(4));
        Checks.dueThrowOnly("keep(-1)", Checks.ARGUMENT, x, () -> x.keep(-1));
        Checks.dueThrowOnly("keep(least)", Checks.ARGUMENT, x, () -> x.keep(Integer.MIN_VALUE));
        Checks.due("parse() of aab", x.parse(), 1);
        x.keep(2);
        Checks.due("keep(2): count(1)", x.count(1), 2);
        Checks.due("parse() of aa", x.parse(), 0);
        Checks.dueThrowOnly("keep(3) of two", Checks.ARGUMENT, x, () -> x.keep(3));
        Checks.addTokens(x, "ab");
        Checks.due("parse() of aaab", x.parse(), 1);
        x.keep(0);
        Checks.due("keep(0): count(1)", x.count(1), 0);
        Checks.due("token(1) of none", x.token(1), 1);
        Checks.due("parse() of b", x.parse(), 1);
    }

    private static void treeStays() {
        FirstTrees x = Checks.of("A=aA|b", "aab");
        x.parse();
        String tree = Checks.treeOf(x);
        x.token(0);
        Checks.due("the tree after token(0)", Checks.treeOf(x), tree);
        x.keep(1);
        Checks.due("the tree after keep(1)", Checks.treeOf(x), tree);
        x.reach();
        x.expected(1);
        Checks.due("the tree after questions", Checks.treeOf(x), tree);
    }
}

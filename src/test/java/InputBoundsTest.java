/**
 * The sentences on the input that name a boundary (the terms, promises 8 and 9): each has a test
 * of its own, at the boundary, just inside it and just outside it.
 */
public final class InputBoundsTest {
    private static final int LEAST = Integer.MIN_VALUE;
    private static final int GREATEST = Integer.MAX_VALUE;

    public static void main(String[] args) {
        tokensThatThereAre();
        upToSixtyTokens();
        tokenThrowsTheOneNamedFirst();
        aTreeStaysBesideATokenMore();
        keepsNoLessThanNone();
        keepsNoMoreThanThereAre();
        keepsTheFirstOnes();
        keepsOfTheFullInput();
        Checks.end();
    }

    /** Promise 8: "it is none" (terms: "TOKENS 0 .. 31"). */
    private static void tokensThatThereAre() {
        FirstTrees x = Checks.of("A=az16");
        Checks.dueThrowOnly("token(-1)", Checks.ARGUMENT, x, () -> x.token(-1));
        Checks.due("token(0)", x.token(0), 1);
        Checks.dueThrowOnly("token(32)", Checks.ARGUMENT, x, () -> x.token(32));
        Checks.due("token(25)", x.token(25), 2);
        Checks.due("token(26)", x.token(26), 3);
        // A rule's symbol is no token.
        Checks.dueThrowOnly("token(-16)", Checks.ARGUMENT, x, () -> x.token(-16));
        Checks.due("token(31)", x.token(31), 4);
        Checks.dueThrowOnly("token(33)", Checks.ARGUMENT, x, () -> x.token(33));
        Checks.dueThrowOnly("token(least)", Checks.ARGUMENT, x, () -> x.token(LEAST));
        Checks.dueThrowOnly("token(greatest)", Checks.ARGUMENT, x, () -> x.token(GREATEST));
        Checks.due("parse() of just those that are", x.parse(), 1);
    }

    /** Terms: "up to 60 tokens"; promise 8: "there are 60". */
    private static void upToSixtyTokens() {
        FirstTrees x = Checks.of("A=aA|b");
        for (int n = 1; n < 60; n++) {
            Checks.due("token(0)", x.token(0), n);
        }
        Checks.due("the 60th", x.token(1), 60);
        Checks.dueThrowOnly("the 61st", Checks.FULL, x, () -> x.token(0));
        Checks.dueThrowOnly("the 61st again", Checks.FULL, x, () -> x.token(1));
        Checks.due("count(1)", x.count(1), 60);
        Checks.due("parse() of 60", x.parse(), 1);
        Checks.due("nodes() of 60", x.nodes(), 60);
        x.keep(59);
        Checks.due("reach() of 59", x.reach(), 59);
        Checks.due("room for the 60th again", x.token(1), 60);
        Checks.dueThrowOnly("and no more", Checks.FULL, x, () -> x.token(1));
    }

    /** Terms: "the one named first when several would do", of `token`. */
    private static void tokenThrowsTheOneNamedFirst() {
        FirstTrees x = Checks.of("A=aA|", "a".repeat(59));
        Checks.dueThrowOnly("none behind 59", Checks.ARGUMENT, x, () -> x.token(32));
        x.token(0);
        Checks.dueThrowOnly("32 behind 60", Checks.ARGUMENT, x, () -> x.token(32));
        Checks.dueThrowOnly("-1 behind 60", Checks.ARGUMENT, x, () -> x.token(-1));
        Checks.dueThrowOnly("31 behind 60", Checks.FULL, x, () -> x.token(31));
        Checks.dueThrowOnly("0 behind 60", Checks.FULL, x, () -> x.token(0));
    }

    /** Promise 8: "(a tree stays)". */
    private static void aTreeStaysBesideATokenMore() {
        FirstTrees x = Checks.of("A=aA|", "aa");
        Checks.due("parse()", x.parse(), 1);
        String tree = Checks.treeOf(x);
        x.token(1);
        Checks.due("the tree beside a token more", Checks.treeOf(x), tree);
        x.keep(0);
        Checks.due("the tree without input", Checks.treeOf(x), tree);
        Checks.setInput(x, "b".repeat(60));
        Checks.due("the tree beside another input", Checks.treeOf(x), tree);
        Checks.due("parse() of that", x.parse(), 0);
        x.keep(0);
        Checks.due("no tree stays none", x.nodes(), 0);
    }

    /** Promise 9: "n is below 0". */
    private static void keepsNoLessThanNone() {
        FirstTrees x = Checks.of("A=a|", "a");
        Checks.dueThrowOnly("keep(-1)", Checks.ARGUMENT, x, () -> x.keep(-1));
        Checks.dueThrowOnly("keep(least)", Checks.ARGUMENT, x, () -> x.keep(LEAST));
        Checks.due("count(1) then", x.count(1), 1);
        x.keep(0);
        Checks.due("count(1) after keep(0)", x.count(1), 0);
        Checks.dueThrowOnly("keep(-1) of none", Checks.ARGUMENT, x, () -> x.keep(-1));
        x.keep(0);
        Checks.due("count(1) after keep(0) of none", x.count(1), 0);
    }

    /** Promise 9: "or it has not so many". */
    private static void keepsNoMoreThanThereAre() {
        FirstTrees x = Checks.of("A=aA|");
        Checks.dueThrowOnly("keep(1) of none", Checks.ARGUMENT, x, () -> x.keep(1));
        Checks.addTokens(x, "aaa");
        Checks.dueThrowOnly("keep(4) of 3", Checks.ARGUMENT, x, () -> x.keep(4));
        Checks.dueThrowOnly("keep(60) of 3", Checks.ARGUMENT, x, () -> x.keep(60));
        Checks.dueThrowOnly("keep(greatest) of 3", Checks.ARGUMENT, x, () -> x.keep(GREATEST));
        x.keep(3);
        Checks.due("count(1) after keep(3) of 3", x.count(1), 3);
        x.keep(2);
        Checks.due("count(1) after keep(2) of 3", x.count(1), 2);
        // The tokens that it has lost do not come back.
        Checks.dueThrowOnly("keep(3) of 2", Checks.ARGUMENT, x, () -> x.keep(3));
        x.keep(1);
        Checks.due("count(1) after keep(1) of 2", x.count(1), 1);
    }

    /** Promise 9: "The input keeps its first n tokens." */
    private static void keepsTheFirstOnes() {
        String input = "abcde";
        for (int n = 0; n <= 5; n++) {
            FirstTrees x = Checks.of("A=abcdef|ab|abcd", input);
            x.keep(n);
            Checks.due("reach() of the first " + n, x.reach(), n == 2 || n == 4 ? n + 1 : n);
            x.token(5);
            boolean isAll = n == 5;
            Checks.due("parse() with f behind the first " + n, x.parse(), isAll ? 1 : 0);
        }
    }

    /** Promise 9, with all the 60 tokens that there can be. */
    private static void keepsOfTheFullInput() {
        FirstTrees x = Checks.of("A=aA|", "a".repeat(60));
        Checks.dueThrowOnly("keep(61) of 60", Checks.ARGUMENT, x, () -> x.keep(61));
        x.keep(60);
        Checks.due("count(1) after keep(60) of 60", x.count(1), 60);
        Checks.due("parse() of 60", x.parse(), 1);
        x.keep(59);
        Checks.due("parse() of 59", x.parse(), 1);
        Checks.due("nodes() of 59", x.nodes(), 60);
        x.keep(0);
        Checks.due("parse() of none", x.parse(), 1);
        Checks.due("nodes() of none", x.nodes(), 1);
    }
}

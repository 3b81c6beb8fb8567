/**
 * The sentences on reaching that name a boundary (the terms, promises 13 and 14): each has a test
 * of its own, at the boundary, just inside it and just outside it.
 */
public final class ReachBoundsTest {
    private static final int LEAST = Integer.MIN_VALUE;
    private static final int GREATEST = Integer.MAX_VALUE;

    public static void main(String[] args) {
        thatPlaceIfNoneCan();
        theEndAndOneMoreIfItFits();
        reachOfTheFullInput();
        reachOfEachBeginning();
        reachOfWhatNeverEnds();
        reachIsRefused();
        placesThatThereAre();
        placesOfTheEmptyInput();
        placesOfTheFullInput();
        expectedIsRefused();
        expectedTokens();
        inThePlaceOfThoseThatAreThere();
        theEndIfTheTokensBeforeHaveATree();
        nothingWhereItDoesNotReach();
        questionsLeaveTheTree();
        Checks.end();
    }

    private static void dueReach(String grammar, String input, int place) {
        FirstTrees x = Checks.of(grammar, input);
        Checks.due(grammar + " on '" + input + "': reach()", x.reach(), place);
    }

    private static void dueExpected(String grammar, String input, int place, String letters) {
        FirstTrees x = Checks.of(grammar, input);
        String name = grammar + " on '" + input + "': expected(" + place + ")";
        Checks.due(name, x.expected(place), Checks.set(letters));
    }

    /** Terms: "(that place, if none can)". */
    private static void thatPlaceIfNoneCan() {
        dueReach("A=a", "", 0);
        dueReach("A=a", "b", 0);
        dueReach("A=a", "ba", 0);
        dueReach("A=", "a", 0);
        dueReach("A=BBB B=", "a", 0);
        dueReach("A=BBBa B=", "b", 0);
        dueReach("A=BBBa B=", "ab", 1);
    }

    /** Terms: "the end of the input and one more, if it fits to the end"; promise 13: the same. */
    private static void theEndAndOneMoreIfItFits() {
        dueReach("A=", "", 1);
        dueReach("A=a|", "", 1);
        dueReach("A=a", "a", 2);
        dueReach("A=aaa", "a", 1);
        dueReach("A=aaa", "aa", 2);
        dueReach("A=aaa", "aaa", 4);
        dueReach("A=aaa", "aaaa", 3);
        // It is one more even where another alternative takes as many tokens without fitting.
        dueReach("A=aab|aa", "aa", 3);
        dueReach("A=aab", "aa", 2);
        // Rules that can become nothing at the end fit there.
        dueReach("A=aBBBBBBB B=b|", "a", 2);
        dueReach("A=aBBBBBBb B=b|", "a", 1);
        for (String input : new String[] {"", "a", "b", "ab", "aab", "aba"}) {
            FirstTrees x = Checks.of("A=aA|b|", input);
            int most = input.length() + 1;
            Checks.due("'" + input + "': end and one more", x.reach() == most, x.parse() > 0);
        }
    }

    /** Promise 13, with all the 60 tokens that there can be. */
    private static void reachOfTheFullInput() {
        dueReach("A=aA|", "a".repeat(60), 61);
        dueReach("A=aA|b", "a".repeat(60), 60);
        dueReach("A=aA|b", "a".repeat(59) + "b", 61);
        dueReach("A=aA|b", "a".repeat(59) + "c", 59);
        dueReach("A=aA|b", "a".repeat(58) + "bb", 59);
        dueReach("A=aA|b", "c" + "a".repeat(59), 0);
        dueReach("A=aA|b", "b" + "a".repeat(59), 1);
        dueReach("A=6A|", "6".repeat(60), 61);
    }

    /** Terms: "the last place to which tokens can be taken away", for each wrong place. */
    private static void reachOfEachBeginning() {
        String row = "abcdefgh";
        for (int wrong = 0; wrong < 8; wrong++) {
            String input = row.substring(0, wrong) + "x" + row.substring(wrong + 1);
            dueReach("A=abcdefgh", input, wrong);
            dueReach("A=abcdefgh", row.substring(0, wrong), wrong);
        }
        dueReach("A=abcdefgh", row, 9);
        dueReach("A=abcdefgh", row + "a", 8);
        // The farthest alternative counts, whether it is the first or the eighth.
        dueReach("A=ab|x|x|x|x|x|x|x", "aa", 1);
        dueReach("A=x|x|x|x|x|x|x|ab", "aa", 1);
    }

    /** Terms: tokens are taken away by a rule that never becomes nothing, too. */
    private static void reachOfWhatNeverEnds() {
        dueReach("A=aA", "", 0);
        dueReach("A=aA", "a", 1);
        dueReach("A=aA", "a".repeat(60), 60);
        dueReach("A=aA", "a".repeat(59) + "b", 59);
        dueReach("A=Ba B=aB", "a".repeat(60), 60);
    }

    /** Promise 13: "IllegalStateException". */
    private static void reachIsRefused() {
        FirstTrees x = Checks.of("A=a", "a");
        x.parse();
        x.clear();
        Checks.dueThrowOnly("reach() without a rule", Checks.STATE, x, () -> x.reach());
        x.rule();
        Checks.dueThrowOnly("reach() without alternative", Checks.STATE, x, () -> x.reach());
        x.alternative(0);
        Checks.due("reach() when it is right", x.reach(), 0);
        x.symbol(0, -2);
        Checks.dueThrowOnly("reach() without B", Checks.STATE, x, () -> x.reach());
        x.rule();
        x.alternative(1);
        Checks.due("reach() when it is right again", x.reach(), 0);
        x.symbol(1, -1);
        Checks.dueThrowOnly("reach() at its own left", Checks.STATE, x, () -> x.reach());
    }

    /** Promise 14: "a place of the input, 0 .. its end"; "there is no such place". */
    private static void placesThatThereAre() {
        FirstTrees x = Checks.of("A=abc", "abc");
        Checks.dueThrowOnly("expected(-1)", Checks.ARGUMENT, x, () -> x.expected(-1));
        Checks.due("expected(0)", x.expected(0), Checks.set("a"));
        Checks.due("expected(1)", x.expected(1), Checks.set("b"));
        Checks.due("expected(2)", x.expected(2), Checks.set("c"));
        Checks.due("expected(3)", x.expected(3), Checks.set("$"));
        Checks.dueThrowOnly("expected(4)", Checks.ARGUMENT, x, () -> x.expected(4));
        Checks.dueThrowOnly("expected(least)", Checks.ARGUMENT, x, () -> x.expected(LEAST));
        Checks.dueThrowOnly("expected(greatest)", Checks.ARGUMENT, x, () -> x.expected(GREATEST));
        // Shifted by 64, a bit is where it was.
        Checks.dueThrowOnly("expected(64)", Checks.ARGUMENT, x, () -> x.expected(64));
        x.keep(2);
        Checks.dueThrowOnly("expected(3) of 2", Checks.ARGUMENT, x, () -> x.expected(3));
        Checks.due("expected(2) of 2", x.expected(2), Checks.set("c"));
    }

    /** Promise 14: the same, where the end is 0. */
    private static void placesOfTheEmptyInput() {
        FirstTrees x = Checks.of("A=a|");
        Checks.dueThrowOnly("expected(-1) of none", Checks.ARGUMENT, x, () -> x.expected(-1));
        Checks.due("expected(0) of none", x.expected(0), Checks.set("a$"));
        Checks.dueThrowOnly("expected(1) of none", Checks.ARGUMENT, x, () -> x.expected(1));
    }

    /** Promise 14: the same, where the end is 60, and no token could really come any more. */
    private static void placesOfTheFullInput() {
        FirstTrees x = Checks.of("A=aA|b|c6", "a".repeat(60));
        Checks.due("expected(59)", x.expected(59), Checks.set("abc"));
        Checks.due("expected(60)", x.expected(60), Checks.set("abc"));
        Checks.dueThrowOnly("expected(61)", Checks.ARGUMENT, x, () -> x.expected(61));
        x.keep(59);
        Checks.dueThrowOnly("expected(60) of 59", Checks.ARGUMENT, x, () -> x.expected(60));
        x.token(2);
        Checks.due("expected(60) behind c", x.expected(60), Checks.set("6"));
        x.keep(59);
        x.token(1);
        Checks.due("expected(60) behind b", x.expected(60), Checks.set("$"));
    }

    /** Promise 14: "IllegalStateException", named before the other. */
    private static void expectedIsRefused() {
        FirstTrees x = Checks.of("A=aB", "a");
        Checks.dueThrowOnly("expected(0) without B", Checks.STATE, x, () -> x.expected(0));
        Checks.dueThrowOnly("expected(2) without B", Checks.STATE, x, () -> x.expected(2));
        Checks.dueThrowOnly("expected(-1) without B", Checks.STATE, x, () -> x.expected(-1));
        x.rule();
        x.alternative(1);
        Checks.dueThrowOnly("expected(2) with B", Checks.ARGUMENT, x, () -> x.expected(2));
        Checks.due("expected(1) with B", x.expected(1), Checks.set("$"));
    }

    /** Promise 14, terms: "bit t for token t, bit 32 for the end": none to all of them. */
    private static void expectedTokens() {
        dueExpected("A=a", "", 0, "a");
        dueExpected("A=6", "", 0, "6");
        dueExpected("A=", "", 0, "$");
        dueExpected("A=a|6|", "", 0, "a6$");
        FirstTrees x = new FirstTrees();
        for (int rule = 0; rule < 5; rule++) {
            x.rule();
        }
        for (int rule = 1; rule < 5; rule++) {
            x.alternative(0);
            x.symbol(0, -1 - rule);
            x.symbol(0, -1);
            for (int k = 0; k < 8; k++) {
                x.alternative(rule);
                x.symbol(rule, 8 * (rule - 1) + k);
            }
        }
        Checks.due("all tokens", x.expected(0), 0xFFFFFFFFL);
        x.alternative(0);
        Checks.due("all tokens and the end", x.expected(0), 0x1FFFFFFFFL);
        x.token(31);
        Checks.due("behind token 31", x.expected(1), 0x1FFFFFFFFL);
        x.token(0);
        Checks.due("behind token 0", x.expected(2), 0x1FFFFFFFFL);
    }

    /** Promise 14: "in the place of those that are there": what is there makes no difference. */
    private static void inThePlaceOfThoseThatAreThere() {
        for (String rest : new String[] {"", "b", "c", "d", "bb", "bc", "cc", "dd"}) {
            dueExpected("A=abc|acb|a", "a" + rest, 1, "bc$");
        }
        for (String rest : new String[] {"", "a", "b", "ab", "bb"}) {
            dueExpected("A=Bb B=a|", rest, 0, "ab");
        }
    }

    /** Promise 14: "and the end, if the tokens before it have a tree". */
    private static void theEndIfTheTokensBeforeHaveATree() {
        String[] want = {"a", "b$", "a", "b$", "a", ""};
        FirstTrees x = Checks.of("A=aB B=bA|", "ababb");
        for (int place = 0; place < want.length; place++) {
            long due = Checks.set(want[place]);
            Checks.due("ababb: expected(" + place + ")", x.expected(place), due);
        }
        // At the beginning no tokens are before it.
        dueExpected("A=aA|", "a", 0, "a$");
        dueExpected("A=aA|a", "a", 0, "a");
        dueExpected("A=", "aa", 0, "$");
    }

    /** Promise 14: "0, when rule 0 does not reach it". */
    private static void nothingWhereItDoesNotReach() {
        FirstTrees x = Checks.of("A=abcd", "abxd");
        Checks.due("reach()", x.reach(), 2);
        Checks.due("just before it: expected(1)", x.expected(1), Checks.set("b"));
        Checks.due("there: expected(2)", x.expected(2), Checks.set("c"));
        Checks.due("just behind it: expected(3)", x.expected(3), 0);
        Checks.due("at the end: expected(4)", x.expected(4), 0);
        dueExpected("A=a", "b", 0, "a");
        dueExpected("A=a", "b", 1, "");
        dueExpected("A=", "a", 1, "");
        // It is reached wherever something is expected, and nowhere else.
        FirstTrees y = Checks.of("A=aBA|c B=b|bb|", "abbacabb");
        for (int place = 0; place <= 8; place++) {
            boolean isReached = y.reach() >= place;
            Checks.due("expected(" + place + ") is none", y.expected(place) == 0, !isReached);
        }
        dueExpected("A=aA|", "a".repeat(59) + "b", 59, "a$");
        dueExpected("A=aA|", "a".repeat(59) + "b", 60, "");
    }

    /** Terms: a tree is changed by `parse` alone. */
    private static void questionsLeaveTheTree() {
        FirstTrees x = Checks.of("A=aA|", "aa");
        x.parse();
        String tree = Checks.treeOf(x);
        x.token(1);
        Checks.due("reach() where there is no tree", x.reach(), 2);
        Checks.due("the tree then", Checks.treeOf(x), tree);
        Checks.due("expected(2)", x.expected(2), Checks.set("a$"));
        Checks.due("expected(3)", x.expected(3), 0);
        Checks.due("the tree after all", Checks.treeOf(x), tree);
        Checks.due("parse() after all", x.parse(), 0);
    }
}

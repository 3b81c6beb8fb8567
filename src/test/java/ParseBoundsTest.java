/**
 * The sentences on trees that name a boundary (the terms, promises 10 to 12): each has a test of
 * its own, at the boundary, just inside it and just outside it.
 */
public final class ParseBoundsTest {
    private static final int LEAST = Integer.MIN_VALUE;
    private static final int GREATEST = Integer.MAX_VALUE;
    private static final int MOST = 1000000000;

    /** Its tree of the empty input has 2000 nodes; one more for each G behind rule C's row. */
    private static final String TWO_THOUSAND =
            "A=EEEB B=DDDC C=FFGGGGG D=FFFFFFFF E=DDDDDDDD F=GGGGGGGG G=|a";

    public static void main(String[] args) {
        treesOfTheEmptyInput();
        treesOfTheFullInput();
        justItsPartOfTheInput();
        mostTreesToldByAlternatives();
        mostTreesToldByPlaces();
        treesThatWrapAround();
        treesThatComeToNothing();
        inPlaceOfTheOneBefore();
        withoutAnyThereIsNone();
        notRight();
        atMostTwoThousandNodes();
        onlyTheFirstOneIsTooLarge();
        refusedTreeChangesNothing();
        nodesWithoutATree();
        noSuchNode();
        noSuchFact();
        nodeThrowsTheOneNamedFirst();
        aboveTheFirstOneIsNone();
        rightBelow();
        whereNodesBeginAndEnd();
        lookWithOneAlternative();
        lookWithoutTokensLeft();
        lookNotMoreThanTokensLeftAndOne();
        lookThroughTheFullInput();
        lookOfEightAlternatives();
        lookFollowedByWhatIsToCome();
        lesserAlternativeAtTheFirstNode();
        Checks.end();
    }

    private static void due(String grammar, String input, int trees, String tree) {
        FirstTrees x = Checks.of(grammar, input);
        String name = grammar + " on '" + input + "'";
        Checks.due(name + ": parse()", x.parse(), trees);
        Checks.due(name + ": tree", Checks.treeOf(x), tree);
    }

    private static void dueTrees(String grammar, String input, int trees) {
        FirstTrees x = Checks.of(grammar, input);
        Checks.due(grammar + " on '" + input + "': parse()", x.parse(), trees);
        Checks.due(grammar + " on '" + input + "': has a tree", x.nodes() > 0, trees > 0);
    }

    /** Terms: "from the input's beginning to its end", where these are one. */
    private static void treesOfTheEmptyInput() {
        due("A=", "", 1, "A0:0-0^-1/0?0");
        due("A=a", "", 0, "");
        due("A=a|", "", 1, "A1:0-0^-1/0?1");
        due("A=BB B=", "", 1, "A0:0-0^-1/2?0 B0:0-0^0/0?0 B0:0-0^0/0?0");
        due("A=Bb B=", "", 0, "");
    }

    /** Terms: "THE INPUT has up to 60 tokens", of all of which there can be a tree. */
    private static void treesOfTheFullInput() {
        FirstTrees x = Checks.of("A=aA|b", "a".repeat(59) + "b");
        Checks.due("59 a and b: parse()", x.parse(), 1);
        Checks.due("59 a and b: nodes()", x.nodes(), 60);
        Checks.due("59 a and b: where the last node begins", x.node(59, 2), 59);
        Checks.due("59 a and b: where the last node ends", x.node(59, 3), 60);
        Checks.due("59 a and b: where the first node ends", x.node(0, 3), 60);
        Checks.setInput(x, "a".repeat(60));
        Checks.due("60 a: parse()", x.parse(), 0);
        // Token 31 at the 60th place.
        FirstTrees y = Checks.of("A=aA|6", "a".repeat(59) + "6");
        Checks.due("59 a and token 31: parse()", y.parse(), 1);
    }

    /** Terms: "so that it has just its part of the input". */
    private static void justItsPartOfTheInput() {
        due("A=aa", "a", 0, "");
        due("A=aa", "aa", 1, "A0:0-2^-1/0?0");
        due("A=aa", "aaa", 0, "");
        due("A=aa", "ab", 0, "");
        due("A=BaB B=b|", "a", 1, "A0:0-1^-1/2?0 B1:0-0^0/0?1 B1:1-1^0/0?1");
        due("A=BaB B=b|", "bab", 1, "A0:0-3^-1/2?0 B0:0-1^0/0?1 B0:2-3^0/0?1");
        due("A=BaB B=b|", "baba", 0, "");
        due("A=BaB B=b|", "bbab", 0, "");
    }

    /** A grammar whose only input, the empty one, has just so many trees: a rule for each digit. */
    private static FirstTrees withTrees(long trees) {
        String digits = Long.toOctalString(trees);
        FirstTrees x = new FirstTrees();
        int eight = digits.length();
        for (int rule = 0; rule <= eight; rule++) {
            x.rule();
        }
        for (int k = 0; k < 8; k++) {
            x.alternative(eight);
        }
        for (int rule = 0; rule < eight; rule++) {
            if (rule < eight - 1) {
                x.alternative(rule);
                x.symbol(rule, -1 - eight);
                x.symbol(rule, -1 - (rule + 1));
            }
            for (int k = 0; k < digits.charAt(eight - 1 - rule) - '0'; k++) {
                x.alternative(rule);
            }
        }
        return x;
    }

    /** Promise 10: "1000000000 for that and more". */
    private static void mostTreesToldByAlternatives() {
        for (int trees : new int[] {1, 2, 7, 8, 9, MOST - 2, MOST - 1, MOST}) {
            Checks.due("parse() with " + trees, withTrees(trees).parse(), trees);
        }
        for (long trees : new long[] {MOST + 1L, MOST + 2L, 2L * MOST, 10L * MOST}) {
            Checks.due("parse() with " + trees, withTrees(trees).parse(), MOST);
        }
    }

    /** Promise 10: the same, where trees differ in the places at which their nodes begin. */
    private static void mostTreesToldByPlaces() {
        // So many trees as there are binary ones with 18, 19 and 29 forks.
        dueTrees("A=aAA|a", "a".repeat(37), 477638700);
        dueTrees("A=aAA|a", "a".repeat(38), 0);
        dueTrees("A=aAA|a", "a".repeat(39), MOST);
        dueTrees("A=aAA|a", "a".repeat(59), MOST);
        dueTrees("A=aAA|a", "a".repeat(60), 0);
        // 67 over 7, and 68 over 8.
        dueTrees("A=BBBBBBBB B=aB|", "a".repeat(60), 869648208);
        dueTrees("A=BBBBBBBC B=aB| C=BB", "a".repeat(60), MOST);
    }

    /** Promise 10: numbers of trees that are nothing, or below it, in 32 or 64 bits. */
    private static void treesThatWrapAround() {
        long half = 1L << 31;
        for (long trees : new long[] {half, half + 5, 2 * half, 2 * half + 1, 512 * half}) {
            Checks.due("parse() with " + trees, withTrees(trees).parse(), MOST);
        }
        // 2 to the 63rd, the 64th and the 65th.
        dueTrees("A=BBB B=CCCCCCC C=|||||||", "", MOST);
        dueTrees("A=BBBD B=CCCCCCC C=||||||| D=|", "", MOST);
        dueTrees("A=BBBDD B=CCCCCCC C=||||||| D=|", "", MOST);
        // 8 times 2 to the 61st, one alternative behind the other.
        dueTrees("A=B|B|B|B|B|B|B|B B=CCCD C=EEEEEE D=EEF E=||||||| F=|", "", MOST);
        // 8 to the 512th.
        dueTrees("A=BBBBBBBB B=CCCCCCCC C=DDDDDDDD D=|||||||", "", MOST);
    }

    /** Promise 10: "How many trees the input has", where one with very many leads nowhere. */
    private static void treesThatComeToNothing() {
        dueTrees("A=BBBBBBBb B=CCCCCCCC C=|||||||", "", 0);
        dueTrees("A=BBBBBBBb|a B=CCCCCCCC C=|||||||", "a", 1);
        dueTrees("A=Db|a B=CCCCCCCC C=||||||| D=BBBBBBBB", "a", 1);
        dueTrees("A=Db|a B=CCCCCCCC C=||||||| D=BBBBBBBB", "b", MOST);
    }

    /** Promise 10: "in place of the one before". */
    private static void inPlaceOfTheOneBefore() {
        FirstTrees x = Checks.of("A=aA|", "aaa");
        x.parse();
        Checks.due("nodes() of 3", x.nodes(), 4);
        x.keep(1);
        Checks.due("nodes() of 3 before parse()", x.nodes(), 4);
        x.parse();
        Checks.due("the tree of 1", Checks.treeOf(x), "A0:0-1^-1/1?1 A1:1-1^0/0?1");
        Checks.dueThrowOnly("node(2, 0) of 1", Checks.INDEX, x, () -> x.node(2, 0));
        x.keep(0);
        x.parse();
        Checks.due("the tree of none", Checks.treeOf(x), "A1:0-0^-1/0?1");
        Checks.addTokens(x, "aaaaa");
        x.parse();
        Checks.due("nodes() of 5", x.nodes(), 6);
    }

    /** Promise 10: "without any there is none". */
    private static void withoutAnyThereIsNone() {
        FirstTrees x = Checks.of("A=aA|b", "b");
        Checks.due("parse() of b", x.parse(), 1);
        Checks.due("nodes() of b", x.nodes(), 1);
        x.token(0);
        Checks.due("parse() of ba", x.parse(), 0);
        Checks.due("nodes() of ba", x.nodes(), 0);
        Checks.dueThrowOnly("node(0, 0) of ba", Checks.INDEX, x, () -> x.node(0, 0));
        Checks.due("parse() of ba again", x.parse(), 0);
        Checks.due("nodes() of ba again", x.nodes(), 0);
        x.keep(1);
        Checks.due("nodes() before parse()", x.nodes(), 0);
        Checks.due("parse() of b again", x.parse(), 1);
        Checks.due("nodes() of b again", x.nodes(), 1);
    }

    /** Promise 10: "IllegalStateException" (the grammar is not right). */
    private static void notRight() {
        FirstTrees x = Checks.of("A=aA|", "aa");
        x.parse();
        String tree = Checks.treeOf(x);
        x.rule();
        Checks.dueThrowOnly("parse() with fault 3", Checks.STATE, x, () -> x.parse());
        x.alternative(1);
        x.symbol(1, -3);
        Checks.dueThrowOnly("parse() with fault 2", Checks.STATE, x, () -> x.parse());
        x.rule();
        x.alternative(2);
        Checks.due("parse() when it is right", x.parse(), 1);
        x.symbol(2, -3);
        Checks.dueThrowOnly("parse() with fault 4", Checks.STATE, x, () -> x.parse());
        x.clear();
        Checks.dueThrowOnly("parse() with fault 1", Checks.STATE, x, () -> x.parse());
        Checks.due("the tree then", Checks.treeOf(x), tree);
    }

    /** Promise 10: "the first one has more than 2000 nodes". */
    private static void atMostTwoThousandNodes() {
        FirstTrees x = Checks.of(TWO_THOUSAND.replace("FFGGGGG", "FFGGGG"));
        Checks.due("parse() of 1999 nodes", x.parse(), 1);
        Checks.due("1999 nodes", x.nodes(), 1999);
        x.symbol(2, -7);
        Checks.due("parse() of 2000 nodes", x.parse(), 1);
        Checks.due("2000 nodes", x.nodes(), 2000);
        x.symbol(2, -7);
        Checks.dueThrowOnly("parse() of 2001 nodes", Checks.FULL, x, () -> x.parse());
        Checks.due("2000 nodes still", x.nodes(), 2000);
        // The same with tokens, 45 nodes for each.
        String many = "A=BCA|BC B=aDDDDDD C=DDDDDDDD D=EF E= F=";
        FirstTrees y = Checks.of(many, "a".repeat(44));
        Checks.due("parse() of 44 times 45 nodes", y.parse(), 1);
        Checks.due("44 times 45 nodes", y.nodes(), 1980);
        y.token(0);
        Checks.dueThrowOnly("parse() of 45 times 45 nodes", Checks.FULL, y, () -> y.parse());
        Checks.setInput(y, "a".repeat(60));
        Checks.dueThrowOnly("parse() of 60 times 45 nodes", Checks.FULL, y, () -> y.parse());
        y.keep(1);
        Checks.due("parse() of 45 nodes", y.parse(), 1);
        Checks.due("45 nodes", y.nodes(), 45);
        // All nodes and all tokens that there can be at once.
        FirstTrees most = Checks.of("A=aBA|C B=DDDEEEE C=DD D=EEEEEEEE E=", "a".repeat(60));
        Checks.due("parse() of 2000 nodes and 60 tokens", most.parse(), 1);
        Checks.due("2000 nodes and 60 tokens", most.nodes(), 2000);
        Checks.due("where the last one ends", most.node(1999, 3), 60);
        Checks.due("where the first one ends", most.node(0, 3), 60);
        most.symbol(2, -5);
        Checks.dueThrowOnly("parse() of 2001 and 60", Checks.FULL, most, () -> most.parse());
        // Without a tree nothing is too large.
        FirstTrees z = Checks.of("A=BBBBBBBz B=CCCCCCCC C=DDDDDDDD D=EEEEEEEE E=");
        Checks.due("parse() of very large parts without a tree", z.parse(), 0);
        z.token('z' - 'a');
        Checks.dueThrowOnly("parse() of them with one", Checks.FULL, z, () -> z.parse());
        // A long way down: 8 to the 14th nodes at the least.
        FirstTrees deep = Checks.of("A=BBBBBBBB B=CCCCCCCC C=DDDDDDDD D=EEEEEEEE E=FFFFFFFF"
                + " F=GGGGGGGG G=HHHHHHHH H=IIIIIIII I=JJJJJJJJ J=KKKKKKKK K=LLLLLLLL L=MMMMMMMM"
                + " M=NNNNNNNN N=OOOOOOOO O=PPPPPPPP P=");
        Checks.dueThrowOnly("parse() of the largest tree", Checks.FULL, deep, () -> deep.parse());
        Checks.due("no tree then", deep.nodes(), 0);
    }

    /** Promise 10: "the first one" alone must not have more than 2000 nodes. */
    private static void onlyTheFirstOneIsTooLarge() {
        String large = "B=CCCCCCCC C=DDDDDDDD D=EEEEEEEE E=FFFFFFFF F=";
        FirstTrees x = Checks.of("A=|B " + large);
        Checks.due("parse() with a large second one", x.parse(), 2);
        Checks.due("nodes() of the first one", x.nodes(), 1);
        FirstTrees y = Checks.of("A=B| " + large);
        Checks.dueThrowOnly("parse() with a large first one", Checks.FULL, y, () -> y.parse());
    }

    /** Terms: "A call that throws changes nothing", of a tree that is refused half made. */
    private static void refusedTreeChangesNothing() {
        FirstTrees x = Checks.of(TWO_THOUSAND);
        Checks.due("parse() of 2000 nodes", x.parse(), 1);
        String tree = Checks.treeOf(x);
        x.symbol(2, -7);
        for (int n = 0; n < 3; n++) {
            Checks.dueThrow("parse() of 2001 nodes", Checks.FULL, () -> x.parse());
            Checks.due("the tree of 2000 nodes", Checks.treeOf(x), tree);
        }
        x.clear();
        Checks.addRules(x, "A=aA|b");
        Checks.addTokens(x, "ab");
        Checks.due("parse() of ab", x.parse(), 1);
        Checks.due("the tree of ab", Checks.treeOf(x), "A0:0-2^-1/1?1 A1:1-2^0/0?1");
        FirstTrees y = Checks.of("A=BBBBBBBB|b B=CCCCCCCC C=DDDDDDDD D=EEEEEEEE E=");
        Checks.dueThrow("parse() of a new one", Checks.FULL, () -> y.parse());
        Checks.due("nodes() then", y.nodes(), 0);
        y.token(1);
        Checks.due("parse() of b", y.parse(), 1);
        Checks.due("the tree of b", Checks.treeOf(y), "A1:0-1^-1/0?1");
    }

    /** Promise 11: "0 without one". */
    private static void nodesWithoutATree() {
        FirstTrees x = new FirstTrees();
        Checks.due("nodes() of a new object", x.nodes(), 0);
        Checks.addRules(x, "A=");
        Checks.due("nodes() before parse()", x.nodes(), 0);
        x.parse();
        Checks.due("nodes() of the least tree", x.nodes(), 1);
        x.token(0);
        x.parse();
        Checks.due("nodes() without a tree", x.nodes(), 0);
    }

    /** Promise 12: "IndexOutOfBoundsException" (there is no such node). */
    private static void noSuchNode() {
        FirstTrees x = Checks.of("A=aB B=b", "ab");
        Checks.dueThrowOnly("node(0, 0) without a tree", Checks.INDEX, x, () -> x.node(0, 0));
        x.parse();
        Checks.dueThrowOnly("node(-1, 0)", Checks.INDEX, x, () -> x.node(-1, 0));
        Checks.due("node(0, 0)", x.node(0, 0), 0);
        Checks.due("node(1, 0)", x.node(1, 0), 1);
        Checks.dueThrowOnly("node(2, 0)", Checks.INDEX, x, () -> x.node(2, 0));
        Checks.dueThrowOnly("node(least, 0)", Checks.INDEX, x, () -> x.node(LEAST, 0));
        Checks.dueThrowOnly("node(greatest, 0)", Checks.INDEX, x, () -> x.node(GREATEST, 0));
        // Seven times this is 3 when it wraps around.
        Checks.dueThrowOnly("node(613566757, 0)", Checks.INDEX, x, () -> x.node(613566757, 0));
        FirstTrees y = Checks.of(TWO_THOUSAND);
        y.parse();
        Checks.due("node(1999, 0)", y.node(1999, 0), 6);
        Checks.dueThrow("node(2000, 0)", Checks.INDEX, () -> y.node(2000, 0));
    }

    /** Promise 12: "what is none of these" (0 to 6). */
    private static void noSuchFact() {
        FirstTrees x = Checks.of("A=aBB B=b|", "ab");
        x.parse();
        int[][] want = {{0, 0, 0, 2, -1, 2, 0}, {1, 0, 1, 2, 0, 0, 2}, {1, 1, 2, 2, 0, 0, 1}};
        for (int i = 0; i < want.length; i++) {
            int of = i;
            for (int what = 0; what <= 6; what++) {
                Checks.due("node(" + i + ", " + what + ")", x.node(i, what), want[i][what]);
            }
            for (int what : new int[] {-1, 7, 8, LEAST, GREATEST}) {
                Checks.dueThrowOnly("node(" + i + ", " + what + ")", Checks.ARGUMENT, x,
                        () -> x.node(of, what));
            }
        }
    }

    /** Terms: "the one named first when several would do", of `node`. */
    private static void nodeThrowsTheOneNamedFirst() {
        FirstTrees x = Checks.of("A=a", "a");
        Checks.dueThrowOnly("node(0, 7) without a tree", Checks.INDEX, x, () -> x.node(0, 7));
        x.parse();
        Checks.dueThrowOnly("node(1, 7)", Checks.INDEX, x, () -> x.node(1, 7));
        Checks.dueThrowOnly("node(-1, -1)", Checks.INDEX, x, () -> x.node(-1, -1));
        Checks.dueThrowOnly("node(0, 7)", Checks.ARGUMENT, x, () -> x.node(0, 7));
        Checks.dueThrowOnly("node(0, -1)", Checks.ARGUMENT, x, () -> x.node(0, -1));
    }

    /** Promise 12: "NONE for the first one". */
    private static void aboveTheFirstOneIsNone() {
        FirstTrees x = Checks.of("A=BC B= C=D D=");
        x.parse();
        int[] want = {FirstTrees.NONE, 0, 0, 2};
        for (int i = 0; i < want.length; i++) {
            Checks.due("node(" + i + ", 4)", x.node(i, 4), want[i]);
        }
    }

    /** Promise 12: "how many nodes are right below it": none to eight; tokens are none. */
    private static void rightBelow() {
        due("A=aaaaaaaa", "aaaaaaaa", 1, "A0:0-8^-1/0?0");
        due("A=aaaaaaaB B=", "aaaaaaa", 1, "A0:0-7^-1/1?0 B0:7-7^0/0?0");
        FirstTrees x = Checks.of("A=BBBBBBBB B=CC C=");
        x.parse();
        Checks.due("8 right below: node(0, 5)", x.node(0, 5), 8);
        Checks.due("2 right below: node(22, 5)", x.node(22, 5), 2);
        Checks.due("none right below: node(24, 5)", x.node(24, 5), 0);
        Checks.due("the last one's above: node(24, 4)", x.node(24, 4), 22);
    }

    /** Promise 12: "where it begins in the input", "where it ends": from 0 up to 60. */
    private static void whereNodesBeginAndEnd() {
        FirstTrees x = Checks.of("A=BCB B= C=aC|a", "a".repeat(60));
        x.parse();
        Checks.due("nodes()", x.nodes(), 63);
        int[][] want = {{0, 0, 60}, {1, 0, 0}, {2, 0, 60}, {61, 59, 60}, {62, 60, 60}};
        for (int[] node : want) {
            Checks.due("node(" + node[0] + ", 2)", x.node(node[0], 2), node[1]);
            Checks.due("node(" + node[0] + ", 3)", x.node(node[0], 3), node[2]);
        }
    }

    private static void dueLook(String grammar, String input, int node, int look) {
        FirstTrees x = Checks.of(grammar, input);
        x.parse();
        String name = grammar + " on '" + input + "': node(" + node + ", 6)";
        Checks.due(name, x.node(node, 6), look);
    }

    /** Terms: "0 if its rule has one alternative". */
    private static void lookWithOneAlternative() {
        dueLook("A=", "", 0, 0);
        dueLook("A=|", "", 0, 1);
        dueLook("A=aaaa", "aaaa", 0, 0);
        dueLook("A=aaaa|b", "aaaa", 0, 1);
        dueLook("A=b|aaaa", "aaaa", 0, 1);
        dueLook("A=aB B=a", "aa", 1, 0);
    }

    /** Terms: "not more than the tokens that are left and 1", where none is left. */
    private static void lookWithoutTokensLeft() {
        dueLook("A=aB B=b|", "a", 1, 1);
        dueLook("A=aB B=|", "a", 1, 1);
        dueLook("A=aB B=|||||||", "a", 1, 1);
        dueLook("A=BB B=a|", "a", 2, 1);
    }

    /** Terms: the same; another alternative takes all but one, takes all, and fits. */
    private static void lookNotMoreThanTokensLeftAndOne() {
        dueLook("A=aaa|b", "aaa", 0, 1);
        dueLook("A=aaa|ab", "aaa", 0, 2);
        dueLook("A=aaa|aab", "aaa", 0, 3);
        dueLook("A=aaa|aaab", "aaa", 0, 4);
        dueLook("A=aaa|aaa", "aaa", 0, 4);
        dueLook("A=aaa|aa", "aaa", 0, 3);
        dueLook("A=aaa|aaaa", "aaa", 0, 4);
        // The same behind a token: the tokens left are fewer.
        dueLook("A=bB B=aaa|aa", "baaa", 1, 3);
        dueLook("A=bB B=aaa|aaab", "baaa", 1, 4);
        dueLook("A=bB B=aaa|aaa", "baaa", 1, 4);
    }

    /** Terms: the same with all the 60 tokens that there can be. */
    private static void lookThroughTheFullInput() {
        String full = "a".repeat(60);
        dueLook("A=B|Bb B=aB|", full, 0, 61);
        dueLook("A=B|B B=aB|", full, 0, 61);
        dueLook("A=B|C B=aB| C=aC", full, 0, 61);
        dueLook("A=B|Cb B=aB|b C=aC|", "a".repeat(59) + "b", 0, 61);
        dueLook("A=B|Cc B=aB|b C=aC|", "a".repeat(59) + "b", 0, 60);
        dueLook("A=B|Cc B=aB|bb C=aC|", "a".repeat(58) + "bb", 0, 59);
    }

    /** Terms: "none of the other alternatives": the greatest of all seven counts. */
    private static void lookOfEightAlternatives() {
        String[] rows = {"ab", "b", "b", "b", "b", "b", "b", "b"};
        for (int k = 1; k < 8; k++) {
            String[] others = rows.clone();
            others[k] = "ac";
            dueLook("A=" + String.join("|", others), "ab", 0, 2);
        }
        for (int k = 0; k < 7; k++) {
            String[] others = {"b", "b", "b", "b", "b", "b", "b", "ab"};
            others[k] = "ac";
            dueLook("A=" + String.join("|", others), "ab", 0, 2);
        }
        String eight = "A=" + String.join("|", rows);
        dueLook(eight, "ab", 0, 1);
        // Those of the next rule are none of them, nor are those that were there before.
        dueLook(eight + " B=ac|ab", "ab", 0, 1);
        FirstTrees x = Checks.of("A=ab|ac|ab B=ac|ac", "ab");
        x.parse();
        Checks.due("three alternatives: node(0, 6)", x.node(0, 6), 3);
        x.clear();
        Checks.addRules(x, "A=ab|b");
        x.parse();
        Checks.due("two alternatives: node(0, 6)", x.node(0, 6), 1);
    }

    /** Terms: "WHAT IS TO COME behind a node": nothing behind the first; then all above it. */
    private static void lookFollowedByWhatIsToCome() {
        dueLook("A=a|", "a", 0, 1);
        dueLook("A=Ba B=a|", "aa", 1, 2);
        dueLook("A=Bab B=a|", "aab", 1, 2);
        dueLook("A=Cb B=a| C=Ba", "aab", 2, 2);
        dueLook("A=Cab B=a| C=Ba", "aaab", 2, 3);
        dueLook("A=Cab B=a| C=Ba", "aab", 2, 3);
        dueLook("A=CD B=a| C=BD D=a|", "aa", 2, 3);
        // What stands before it in the alternatives above is not to come.
        dueLook("A=aBb B=a|", "aab", 1, 1);
        // Another one that never ends lets nothing come behind it.
        dueLook("A=Bbb B=a|C C=aC", "abb", 1, 2);
    }

    /** Terms: "the lesser alternative at the first node (by numbers) at which they differ". */
    private static void lesserAlternativeAtTheFirstNode() {
        String eight = "A=b|b|b|b|b|b|a|a";
        due(eight, "a", 2, "A6:0-1^-1/0?2");
        due("A=b|b|b|b|b|b|b|a", "a", 1, "A7:0-1^-1/0?1");
        due("A=a|a|a|a|a|a|a|a", "a", 8, "A0:0-1^-1/0?2");
        // The second node's alternative counts before that of the last one.
        due("A=BB B=|a", "a", 2, "A0:0-1^-1/2?0 B0:0-0^0/0?2 B1:0-1^0/0?1");
        due("A=BB B=a|", "a", 2, "A0:0-1^-1/2?0 B0:0-1^0/0?2 B1:1-1^0/0?1");
        // Below a node comes before beside it.
        due("A=BC B=D C=|a D=|a", "a", 2,
                "A0:0-1^-1/2?0 B0:0-0^0/1?0 D0:0-0^1/0?2 C1:0-1^0/0?1");
    }
}

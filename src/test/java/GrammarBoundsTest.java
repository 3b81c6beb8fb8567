/**
 * The sentences on grammars that name a boundary (the terms, promises 1 to 7 and 19): each has a
 * test of its own, at the boundary, just inside it and just outside it.
 */
public final class GrammarBoundsTest {
    private static final int LEAST = Integer.MIN_VALUE;
    private static final int GREATEST = Integer.MAX_VALUE;

    public static void main(String[] args) {
        noRulesNoInputNoTree();
        atMostSixteenRules();
        ruleZeroIsTheFirst();
        atMostEightAlternatives();
        noSuchRuleForAnAlternative();
        rowsOfUpToEightSymbols();
        symbolsThatThereAre();
        noSuchRuleForASymbol();
        noAlternativeForASymbol();
        symbolThrowsTheOneNamedFirst();
        clearTellsHowManyThereWere();
        clearLeavesNothingOfTheGrammar();
        clearLeavesTheTree();
        rightWhenThereIsARule();
        rightWhenEachSymbolIsThere();
        rightWhenEachRuleHasAnAlternative();
        rightWhenNoRuleIsAtItsOwnLeft();
        behindRulesAlone();
        behindRulesThatCanBecomeNothing();
        atTheLeftOfARuleThatStandsSo();
        leastOfTheFaults();
        leastFaultyRule();
        faultyIsNoneForZeroAndOne();
        askedAboutFaultsAlone();
        countsThatThereAre();
        countsOfRules();
        Checks.end();
    }

    /** Promise 1: "No rules, no input, no tree." */
    private static void noRulesNoInputNoTree() {
        FirstTrees x = new FirstTrees();
        Checks.due("new: count(0)", x.count(0), 0);
        Checks.due("new: count(1)", x.count(1), 0);
        Checks.due("new: nodes()", x.nodes(), 0);
        Checks.due("new: clear()", x.clear(), 0);
        Checks.dueThrowOnly("new: alternative(0)", Checks.INDEX, x, () -> x.alternative(0));
        Checks.dueThrowOnly("new: node(0, 0)", Checks.INDEX, x, () -> x.node(0, 0));
        x.keep(0);
        Checks.dueThrowOnly("new: keep(1)", Checks.ARGUMENT, x, () -> x.keep(1));
        Checks.addRules(x, "A=");
        Checks.due("new: reach() of the empty input", x.reach(), 1);
        Checks.due("new: nodes() before parse()", x.nodes(), 0);
    }

    /** Terms: "RULES 0, 1, .., at most 16"; promise 2: "there are 16". */
    private static void atMostSixteenRules() {
        FirstTrees x = new FirstTrees();
        for (int rule = 0; rule < 16; rule++) {
            Checks.due("rule() number " + rule, x.rule(), rule);
        }
        Checks.dueThrowOnly("rule() of 16", Checks.FULL, x, () -> x.rule());
        Checks.dueThrowOnly("rule() of 16 again", Checks.FULL, x, () -> x.rule());
        Checks.due("count(0) then", x.count(0), 16);
        Checks.due("the 16th rule takes an alternative", x.alternative(15), 0);
        Checks.due("and a symbol", x.symbol(15, -16), 1);
        x.clear();
        for (int rule = 0; rule < 16; rule++) {
            Checks.due("rule() after clear()", x.rule(), rule);
        }
        Checks.dueThrowOnly("rule() of 16 new ones", Checks.FULL, x, () -> x.rule());
    }

    /** Terms: "rule 0 is the first". */
    private static void ruleZeroIsTheFirst() {
        FirstTrees x = Checks.of("A=a B=b", "b");
        Checks.due("parse() of what another rule has", x.parse(), 0);
        Checks.due("reach() of that", x.reach(), 0);
        Checks.setInput(x, "a");
        Checks.due("parse() of what rule 0 has", x.parse(), 1);
        Checks.due("the first node's rule", x.node(0, 0), 0);
    }

    /** Terms: "ALTERNATIVES 0, 1, .., at most 8"; promise 3: "there are 8". */
    private static void atMostEightAlternatives() {
        FirstTrees x = Checks.of("A B");
        for (int rule = 0; rule < 2; rule++) {
            int of = rule;
            for (int k = 0; k < 8; k++) {
                Checks.due("alternative(" + rule + ")", x.alternative(rule), k);
            }
            Checks.dueThrowOnly("the 9th of " + rule, Checks.FULL, x, () -> x.alternative(of));
            Checks.dueThrowOnly("once more of " + rule, Checks.FULL, x, () -> x.alternative(of));
            Checks.due("count of " + rule, x.count(2 + rule), 8);
        }
        Checks.due("a symbol of the 8th alternative", x.symbol(0, 0), 1);
        Checks.due("what token 0 lets in", x.lets(0, 0), 0b10000000);
        Checks.due("what the end lets in", x.lets(0, 32), 0b01111111);
    }

    /** Promise 3: "IndexOutOfBoundsException", named before the other. */
    private static void noSuchRuleForAnAlternative() {
        FirstTrees x = Checks.of("A=||||||| B");
        Checks.dueThrowOnly("alternative(-1)", Checks.INDEX, x, () -> x.alternative(-1));
        Checks.dueThrowOnly("alternative(0) of 8", Checks.FULL, x, () -> x.alternative(0));
        Checks.dueThrowOnly("alternative(2)", Checks.INDEX, x, () -> x.alternative(2));
        Checks.dueThrowOnly("alternative(16)", Checks.INDEX, x, () -> x.alternative(16));
        Checks.dueThrowOnly("alternative(least)", Checks.INDEX, x, () -> x.alternative(LEAST));
        Checks.dueThrowOnly("alternative(greatest)", Checks.INDEX, x,
                () -> x.alternative(GREATEST));
        // Eight times these is 0 when it wraps around.
        Checks.dueThrowOnly("alternative(1 << 29)", Checks.INDEX, x, () -> x.alternative(1 << 29));
        Checks.due("alternative(1)", x.alternative(1), 0);
    }

    /** Terms: "a row of up to 8 SYMBOLS"; promise 4: "there are 8". */
    private static void rowsOfUpToEightSymbols() {
        FirstTrees x = Checks.of("A=");
        Checks.due("a row without symbols", x.parse(), 1);
        for (int k = 1; k <= 8; k++) {
            Checks.due("symbol(0, 0)", x.symbol(0, 0), k);
        }
        Checks.dueThrowOnly("the 9th symbol", Checks.FULL, x, () -> x.symbol(0, 0));
        Checks.dueThrowOnly("the 9th, a rule", Checks.FULL, x, () -> x.symbol(0, -1));
        Checks.setInput(x, "aaaaaaa");
        Checks.due("parse() of 7", x.parse(), 0);
        Checks.setInput(x, "aaaaaaaa");
        Checks.due("parse() of 8", x.parse(), 1);
        Checks.setInput(x, "aaaaaaaaa");
        Checks.due("parse() of 9", x.parse(), 0);
        Checks.due("a new alternative", x.alternative(0), 1);
        Checks.due("has room again", x.symbol(0, 1), 1);
        Checks.due("how the two begin", x.first(0), Checks.set("ab"));
    }

    /** Promise 4: "it is no token 0 .. 31 and none of -1 .. -16". */
    private static void symbolsThatThereAre() {
        FirstTrees x = Checks.of("A=");
        Checks.dueThrowOnly("symbol(0, 32)", Checks.ARGUMENT, x, () -> x.symbol(0, 32));
        Checks.due("symbol(0, 31)", x.symbol(0, 31), 1);
        Checks.due("symbol(0, 30)", x.symbol(0, 30), 2);
        Checks.due("symbol(0, 0)", x.symbol(0, 0), 3);
        Checks.due("symbol(0, -1)", x.symbol(0, -1), 4);
        Checks.due("symbol(0, -15)", x.symbol(0, -15), 5);
        Checks.due("symbol(0, -16)", x.symbol(0, -16), 6);
        Checks.dueThrowOnly("symbol(0, -17)", Checks.ARGUMENT, x, () -> x.symbol(0, -17));
        Checks.dueThrowOnly("symbol(0, 33)", Checks.ARGUMENT, x, () -> x.symbol(0, 33));
        Checks.dueThrowOnly("symbol(0, least)", Checks.ARGUMENT, x, () -> x.symbol(0, LEAST));
        Checks.dueThrowOnly("symbol(0, greatest)", Checks.ARGUMENT, x,
                () -> x.symbol(0, GREATEST));
        Checks.due("no refused one is there", x.symbol(0, 0), 7);
    }

    /** Promise 4: "IndexOutOfBoundsException". */
    private static void noSuchRuleForASymbol() {
        FirstTrees x = Checks.of("A= B=");
        Checks.dueThrowOnly("symbol(-1, 0)", Checks.INDEX, x, () -> x.symbol(-1, 0));
        Checks.dueThrowOnly("symbol(2, 0)", Checks.INDEX, x, () -> x.symbol(2, 0));
        Checks.dueThrowOnly("symbol(16, 0)", Checks.INDEX, x, () -> x.symbol(16, 0));
        Checks.dueThrowOnly("symbol(1 << 26, 0)", Checks.INDEX, x, () -> x.symbol(1 << 26, 0));
        Checks.dueThrowOnly("symbol(least, 0)", Checks.INDEX, x, () -> x.symbol(LEAST, 0));
        Checks.dueThrowOnly("symbol(greatest, 0)", Checks.INDEX, x, () -> x.symbol(GREATEST, 0));
        Checks.due("symbol(1, 0)", x.symbol(1, 0), 1);
        Checks.due("symbol(0, 0)", x.symbol(0, 0), 1);
    }

    /** Promise 4: "the rule has no alternative". */
    private static void noAlternativeForASymbol() {
        FirstTrees x = Checks.of("A=a B");
        Checks.dueThrowOnly("symbol(1, 0) without", Checks.STATE, x, () -> x.symbol(1, 0));
        x.alternative(1);
        Checks.due("symbol(1, 0) with one", x.symbol(1, 0), 1);
        x.clear();
        x.rule();
        Checks.dueThrowOnly("symbol(0, 0) after clear()", Checks.STATE, x, () -> x.symbol(0, 0));
    }

    /** Terms: "the one named first when several would do", of `symbol`, which names four. */
    private static void symbolThrowsTheOneNamedFirst() {
        FirstTrees x = Checks.of("A B=aaaaaaaa");
        Checks.dueThrowOnly("no rule, no symbol", Checks.INDEX, x, () -> x.symbol(2, 32));
        Checks.dueThrowOnly("no symbol, no alternative", Checks.ARGUMENT, x,
                () -> x.symbol(0, 32));
        Checks.dueThrowOnly("no alternative", Checks.STATE, x, () -> x.symbol(0, 31));
        Checks.dueThrowOnly("no symbol, full", Checks.ARGUMENT, x, () -> x.symbol(1, -17));
        Checks.dueThrowOnly("full", Checks.FULL, x, () -> x.symbol(1, -16));
    }

    /** Promise 5: "how many there were". */
    private static void clearTellsHowManyThereWere() {
        FirstTrees x = new FirstTrees();
        for (int rules = 0; rules <= 16; rules++) {
            for (int k = 0; k < rules; k++) {
                x.rule();
            }
            Checks.due("clear() of " + rules, x.clear(), rules);
            Checks.due("clear() then", x.clear(), 0);
        }
    }

    /** Promise 5: "The grammar loses all rules", even one that is full. */
    private static void clearLeavesNothingOfTheGrammar() {
        FirstTrees x = new FirstTrees();
        for (int rule = 0; rule < 16; rule++) {
            x.rule();
            for (int k = 0; k < 8; k++) {
                x.alternative(rule);
                for (int at = 0; at < 8; at++) {
                    x.symbol(rule, 31 - k);
                }
            }
        }
        Checks.due("full: first(15)", x.first(15), 0xFF000000L);
        Checks.due("full: clear()", x.clear(), 16);
        for (int what = 0; what < 18; what++) {
            Checks.due("cleared: count(" + what + ")", x.count(what), 0);
        }
        Checks.dueThrowOnly("cleared: symbol(0, 0)", Checks.INDEX, x, () -> x.symbol(0, 0));
        Checks.addRules(x, "A=B B=");
        Checks.due("new: first(0)", x.first(0), 0);
        Checks.due("new: isNothing(0)", x.isNothing(0), true);
        Checks.dueThrowOnly("new: first(2)", Checks.INDEX, x, () -> x.first(2));
    }

    /** Promise 5: "(The tree stays.)" */
    private static void clearLeavesTheTree() {
        FirstTrees x = Checks.of("A=aBB B=b|", "ab");
        x.parse();
        String tree = Checks.treeOf(x);
        x.clear();
        Checks.due("the tree after clear()", Checks.treeOf(x), tree);
        Checks.due("the input after clear()", x.count(1), 2);
        Checks.dueThrowOnly("parse() after clear()", Checks.STATE, x, () -> x.parse());
        Checks.addRules(x, "A=b");
        Checks.due("the tree after new rules", Checks.treeOf(x), tree);
        Checks.due("parse() by new rules", x.parse(), 0);
        Checks.due("nodes() then", x.nodes(), 0);
        x.clear();
        Checks.due("no tree stays none", x.nodes(), 0);
    }

    private static void dueFault(String grammar, int fault, int faulty) {
        FirstTrees x = Checks.of(grammar);
        Checks.due(grammar + ": fault()", x.fault(), fault);
        Checks.due(grammar + ": faulty()", x.faulty(), faulty);
        FirstTrees y = Checks.of(grammar);
        Checks.due(grammar + ": faulty() asked first", y.faulty(), faulty);
        Checks.due(grammar + ": fault() then", y.fault(), fault);
    }

    private static void dueRight(String grammar) {
        dueFault(grammar, 0, FirstTrees.NONE);
    }

    /** Terms: "RIGHT when there is a rule"; promise 6: "1 there is no rule". */
    private static void rightWhenThereIsARule() {
        dueFault("", 1, FirstTrees.NONE);
        dueRight("A=");
        FirstTrees x = Checks.of("A=");
        x.clear();
        Checks.due("fault() after clear()", x.fault(), 1);
    }

    /** Terms: "each symbol that is a rule is there"; promise 6: "2". */
    private static void rightWhenEachSymbolIsThere() {
        dueRight("A=aA");
        dueFault("A=aB", 2, 0);
        dueRight("A=aB B=");
        dueFault("A=aC B=", 2, 0);
        dueFault("A= B=a|aaaaaaaC", 2, 1);
        dueFault("A= B=|||||||aaaaaaaC", 2, 1);
        // The 16th rule, from the last of 15 rules and with it there.
        String fifteen = "A= B= C= D= E= F= G= H= I= J= K= L= M= N= O=aP";
        dueFault(fifteen, 2, 14);
        dueRight(fifteen + " P=");
        // A token is there, whatever its number.
        dueRight("A=6");
        FirstTrees x = Checks.of("A=B B=");
        x.clear();
        Checks.addRules(x, "A=B");
        Checks.due("a rule that was there before clear()", x.fault(), 2);
    }

    /** Terms: "each rule has an alternative"; promise 6: "3". */
    private static void rightWhenEachRuleHasAnAlternative() {
        dueFault("A", 3, 0);
        dueRight("A=");
        dueFault("A=a B", 3, 1);
        dueFault("A=B B", 3, 1);
        dueFault("A B=", 3, 0);
        dueFault("A= B= C= D= E= F= G= H= I= J= K= L= M= N= O= P", 3, 15);
        FirstTrees x = Checks.of("A=||||||| B=a");
        x.clear();
        x.rule();
        Checks.due("alternatives from before clear()", x.fault(), 3);
    }

    /** Terms: "no rule is at its own left"; promise 6: "4". */
    private static void rightWhenNoRuleIsAtItsOwnLeft() {
        dueFault("A=A", 4, 0);
        dueFault("A=Aa|a", 4, 0);
        dueRight("A=aA|a");
        dueFault("A=|||||||A", 4, 0);
        dueRight("A=|||||||aA");
        dueFault("A= B= C= D= E= F= G= H= I= J= K= L= M= N= O= P=P", 4, 15);
    }

    /** Terms: "behind rules alone". */
    private static void behindRulesAlone() {
        dueFault("A=BA B=", 4, 0);
        dueRight("A=BaA B=");
        dueRight("A=aBA B=");
        dueFault("A=BAa B=", 4, 0);
        dueFault("A=BBBBBBBA B=", 4, 0);
        dueRight("A=BBBBBBaA B=");
        dueRight("A=aBBBBBBA B=");
    }

    /** Terms: "that can become nothing". */
    private static void behindRulesThatCanBecomeNothing() {
        dueRight("A=BA B=b");
        dueFault("A=BA B=b|", 4, 0);
        dueFault("A=BA B=b|b|b|b|b|b|b|", 4, 0);
        dueRight("A=BBBBBBCA B= C=c");
        dueRight("A=CBBBBBBA B= C=c");
        dueFault("A=BA B=CCCCCCCC C=", 4, 0);
        dueRight("A=BA B=CCCCCCCc C=");
        dueFault("A=CA B= C=DD D=BE E=b|BB", 4, 0);
        dueRight("A=CA B= C=DD D=BE E=b|Bb");
        // By way of all the other rules.
        String chain = " B=C C=D D=E E=F F=G G=H H=I I=J J=K K=L L=M M=N N=O O=P";
        dueFault("A=BA" + chain + " P=", 4, 0);
        dueRight("A=BA" + chain + " P=a");
    }

    /** Terms: "or is at the left of a rule that stands so". */
    private static void atTheLeftOfARuleThatStandsSo() {
        dueFault("A=B B=A", 4, 0);
        dueFault("A=a B=C C=B", 4, 1);
        dueRight("A=B B=aA");
        dueRight("A=aB B=A");
        String ring = "A=B B=C C=D D=E E=F F=G G=H H=I I=J J=K K=L L=M M=N N=O O=P";
        dueFault(ring + " P=A", 4, 0);
        dueFault(ring + " P=a|A", 4, 0);
        dueRight(ring + " P=aA");
        dueFault(ring + " P=B", 4, 1);
        dueFault(ring + " P=O", 4, 14);
        String against = "A=aP B=A C=B D=C E=D F=E G=F H=G I=H J=I K=J L=K M=L N=M O=N";
        dueRight(against + " P=O");
        dueFault(against.replace("A=aP", "A=P") + " P=O", 4, 0);
        // A has a rule at its own left at its left: that makes A none itself.
        dueFault("A=B|a B=Bb|b", 4, 1);
    }

    /** Promise 6: "(The least one of these.)" */
    private static void leastOfTheFaults() {
        dueFault("A=A B", 3, 1);
        dueFault("A=C B", 2, 0);
        dueFault("A=AC B=b", 2, 0);
        dueFault("A=A B=aD C", 2, 1);
        dueFault("A B=B C=aD", 2, 2);
        dueFault("A B=B C=c", 3, 0);
        FirstTrees x = Checks.of("A=A B=aD C");
        x.rule();
        Checks.due("when D is there: fault()", x.fault(), 3);
        Checks.due("when D is there: faulty()", x.faulty(), 2);
        x.alternative(2);
        x.alternative(3);
        Checks.due("when all have one: fault()", x.fault(), 4);
        Checks.due("when all have one: faulty()", x.faulty(), 0);
        x.clear();
        Checks.due("when none is left: fault()", x.fault(), 1);
        Checks.due("when none is left: faulty()", x.faulty(), FirstTrees.NONE);
    }

    /** Promise 7: "The least rule of which that is so". */
    private static void leastFaultyRule() {
        dueFault("A=aF B=aF C=c", 2, 0);
        dueFault("A=a B=aF C=aF", 2, 1);
        dueFault("A=A B=B C=aF", 2, 2);
        dueFault("A=a B C D=d", 3, 1);
        dueFault("A=A B C", 3, 1);
        dueFault("A=aB B=B C=C", 4, 1);
        dueFault("A=aB B=C C=B", 4, 1);
        dueFault("A=aB B=bA C=C", 4, 2);
    }

    /** Promise 7: "NONE for 0 and 1." */
    private static void faultyIsNoneForZeroAndOne() {
        FirstTrees x = new FirstTrees();
        Checks.due("NONE", FirstTrees.NONE, -1);
        Checks.due("without a rule: faulty()", x.faulty(), -1);
        x.rule();
        Checks.due("without an alternative: faulty()", x.faulty(), 0);
        x.alternative(0);
        Checks.due("right: faulty()", x.faulty(), -1);
    }

    /** Terms: "As long as it is not right, it is asked about faults alone." */
    private static void askedAboutFaultsAlone() {
        for (String grammar : new String[] {"", "A=aC B=b", "A=a B", "A=aB B=B"}) {
            FirstTrees x = Checks.of("A=a", "a");
            x.parse();
            x.clear();
            Checks.addRules(x, grammar);
            String name = "'" + grammar + "': ";
            Checks.dueThrowOnly(name + "parse()", Checks.STATE, x, () -> x.parse());
            Checks.dueThrowOnly(name + "reach()", Checks.STATE, x, () -> x.reach());
            Checks.dueThrowOnly(name + "expected(0)", Checks.STATE, x, () -> x.expected(0));
            Checks.dueThrowOnly(name + "expected(2)", Checks.STATE, x, () -> x.expected(2));
            Checks.dueThrowOnly(name + "isNothing(0)", Checks.STATE, x, () -> x.isNothing(0));
            Checks.dueThrowOnly(name + "isNothing(2)", Checks.STATE, x, () -> x.isNothing(2));
            Checks.dueThrowOnly(name + "first(0)", Checks.STATE, x, () -> x.first(0));
            Checks.dueThrowOnly(name + "first(2)", Checks.STATE, x, () -> x.first(2));
            Checks.dueThrowOnly(name + "following(0)", Checks.STATE, x, () -> x.following(0));
            Checks.dueThrowOnly(name + "following(2)", Checks.STATE, x, () -> x.following(2));
            Checks.dueThrowOnly(name + "lets(0, 0)", Checks.STATE, x, () -> x.lets(0, 0));
            Checks.dueThrowOnly(name + "lets(2, 33)", Checks.STATE, x, () -> x.lets(2, 33));
            // The input and the tree are asked and changed all the same.
            Checks.due(name + "nodes()", x.nodes(), 1);
            Checks.due(name + "node(0, 3)", x.node(0, 3), 1);
            Checks.due(name + "token(31)", x.token(31), 2);
            x.keep(1);
            Checks.due(name + "count(1)", x.count(1), 1);
        }
    }

    /** Promise 19: "what is not 0 .. 17". */
    private static void countsThatThereAre() {
        FirstTrees x = Checks.of("A=a|b|c", "ab");
        Checks.dueThrowOnly("count(-1)", Checks.ARGUMENT, x, () -> x.count(-1));
        Checks.due("count(0)", x.count(0), 1);
        Checks.due("count(1)", x.count(1), 2);
        Checks.due("count(2)", x.count(2), 3);
        Checks.due("count(16)", x.count(16), 0);
        Checks.due("count(17)", x.count(17), 0);
        Checks.dueThrowOnly("count(18)", Checks.ARGUMENT, x, () -> x.count(18));
        Checks.dueThrowOnly("count(least)", Checks.ARGUMENT, x, () -> x.count(LEAST));
        Checks.dueThrowOnly("count(greatest)", Checks.ARGUMENT, x, () -> x.count(GREATEST));
    }

    /** Promise 19: "of rule r: 2 + r alternatives (0 for none)". */
    private static void countsOfRules() {
        FirstTrees x = new FirstTrees();
        for (int rule = 0; rule < 16; rule++) {
            Checks.due("count(" + (2 + rule) + ") without the rule", x.count(2 + rule), 0);
            x.rule();
            Checks.due("count(" + (2 + rule) + ") without alternatives", x.count(2 + rule), 0);
            for (int k = 0; k < 8; k++) {
                x.alternative(rule);
                Checks.due("count(" + (2 + rule) + ")", x.count(2 + rule), k + 1);
            }
        }
        Checks.due("count(0) of 16", x.count(0), 16);
        Checks.due("count(1) beside 16 rules", x.count(1), 0);
        x.clear();
        x.rule();
        Checks.due("count(2) after clear()", x.count(2), 0);
        Checks.due("count(17) after clear()", x.count(17), 0);
    }
}

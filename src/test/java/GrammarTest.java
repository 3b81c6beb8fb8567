/** Promises 1 to 7 and 19: building a grammar, its faults, and what is counted. */
public final class GrammarTest {
    public static void main(String[] args) {
        newObject();
        rules();
        alternatives();
        symbols();
        symbolsNamedFirst();
        clear();
        clearKeepsInputAndTree();
        faults();
        leastFault();
        atOwnLeft();
        counts();
        Checks.end();
    }

    private static void newObject() {
        FirstTrees x = new FirstTrees();
        for (int what = 0; what < 18; what++) {
            Checks.due("new: count(" + what + ")", x.count(what), 0);
        }
        Checks.due("new: nodes()", x.nodes(), 0);
        Checks.due("new: fault()", x.fault(), 1);
        Checks.due("new: faulty()", x.faulty(), FirstTrees.NONE);
        Checks.dueThrowOnly("new: parse()", Checks.STATE, x, () -> x.parse());
        Checks.dueThrowOnly("new: node(0, 0)", Checks.INDEX, x, () -> x.node(0, 0));
        Checks.dueThrowOnly("new: keep(1)", Checks.ARGUMENT, x, () -> x.keep(1));
        FirstTrees other = Checks.of("A=a", "a");
        other.parse();
        Checks.due("two objects share nothing", x.count(0) + x.count(1) + x.nodes(), 0);
    }

    private static void rules() {
        FirstTrees x = new FirstTrees();
        for (int rule = 0; rule < 16; rule++) {
            Checks.due("rule()", x.rule(), rule);
            Checks.due("count(0)", x.count(0), rule + 1);
            Checks.due("a new rule's alternatives", x.count(2 + rule), 0);
        }
        Checks.dueThrowOnly("the 17th rule()", Checks.FULL, x, () -> x.rule());
    }

    private static void alternatives() {
        FirstTrees x = new FirstTrees();
        Checks.dueThrowOnly("alternative(0) without rules", Checks.INDEX, x,
                () -> x.alternative(0));
        x.rule();
        x.rule();
        for (int k = 0; k < 8; k++) {
            Checks.due("alternative(1)", x.alternative(1), k);
            Checks.due("count(3)", x.count(3), k + 1);
        }
        Checks.dueThrowOnly("the 9th alternative(1)", Checks.FULL, x, () -> x.alternative(1));
        Checks.due("alternative(0)", x.alternative(0), 0);
        Checks.dueThrowOnly("alternative(2)", Checks.INDEX, x, () -> x.alternative(2));
        Checks.dueThrowOnly("alternative(-1)", Checks.INDEX, x, () -> x.alternative(-1));
        Checks.dueThrowOnly("alternative(least)", Checks.INDEX, x,
                () -> x.alternative(Integer.MIN_VALUE));
        Checks.due("a new alternative has no symbols", x.isNothing(0), true);
    }

    private static void symbols() {
        FirstTrees x = new FirstTrees();
        x.rule();
        x.alternative(0);
        for (int k = 0; k < 8; k++) {
            Checks.due("symbol(0, " + k + ")", x.symbol(0, k), k + 1);
        }
        Checks.dueThrowOnly("the 9th symbol", Checks.FULL, x, () -> x.symbol(0, 8));
        Checks.addTokens(x, "abcdefgh");
        Checks.due("8 symbols in their order", x.parse(), 1);
        x.alternative(0);
        Checks.due("a symbol goes to the latest alternative", x.symbol(0, 31), 1);
        Checks.due("the first tokens then", x.first(0), 1L | 1L << 31);
        Checks.due("a rule that is there", x.symbol(0, -1), 2);
        Checks.due("a rule that is not there", x.symbol(0, -16), 3);
    }

    private static void symbolsNamedFirst() {
        FirstTrees x = new FirstTrees();
        Checks.dueThrowOnly("symbol(0, 99) without rules", Checks.INDEX, x, () -> x.symbol(0, 99));
        x.rule();
        Checks.dueThrowOnly("symbol(0, 32) without alternative", Checks.ARGUMENT, x,
                () -> x.symbol(0, 32));
        Checks.dueThrowOnly("symbol(0, 0) without alternative", Checks.STATE, x,
                () -> x.symbol(0, 0));
        x.alternative(0);
        Checks.dueThrowOnly("symbol(0, -17)", Checks.ARGUMENT, x, () -> x.symbol(0, -17));
        Checks.dueThrowOnly("symbol(0, greatest)", Checks.ARGUMENT, x,
                () -> x.symbol(0, Integer.MAX_VALUE));
        Checks.dueThrowOnly("symbol(0, least)", Checks.ARGUMENT, x,
                () -> x.symbol(0, Integer.MIN_VALUE));
        for (int k = 0; k < 8; k++) {
            x.symbol(0, 0);
        }
        Checks.dueThrowOnly("symbol(0, 32) behind 8", Checks.ARGUMENT, x, () -> x.symbol(0, 32));
        Checks.dueThrowOnly("symbol(0, 0) behind 8", Checks.FULL, x, () -> x.symbol(0, 0));
        Checks.dueThrowOnly("symbol(1, 0)", Checks.INDEX, x, () -> x.symbol(1, 0));
        Checks.dueThrowOnly("symbol(-1, 0)", Checks.INDEX, x, () -> x.symbol(-1, 0));
    }

    private static void clear() {
        FirstTrees x = Checks.of("A=aB|b B=c|dd");
        Checks.due("before clear(): fault()", x.fault(), 0);
        Checks.due("clear()", x.clear(), 2);
        for (int what = 0; what < 18; what++) {
            Checks.due("cleared: count(" + what + ")", x.count(what), 0);
        }
        Checks.due("cleared: fault()", x.fault(), 1);
        Checks.dueThrow("cleared: alternative(0)", Checks.INDEX, () -> x.alternative(0));
        Checks.due("clear() again", x.clear(), 0);
        Checks.due("cleared: rule()", x.rule(), 0);
        Checks.due("a rule made anew has no alternatives", x.count(2), 0);
        Checks.due("cleared: alternative(0)", x.alternative(0), 0);
        Checks.due("an alternative made anew has no symbols", x.isNothing(0), true);
        Checks.due("cleared: symbol(0, 1)", x.symbol(0, 1), 1);
        Checks.due("first of the rule made anew", x.first(0), Checks.set("b"));
    }

    private static void clearKeepsInputAndTree() {
        FirstTrees x = Checks.of("A=aB|b B=c|dd", "add");
        x.parse();
        String tree = Checks.treeOf(x);
        x.clear();
        Checks.due("the tree after clear()", Checks.treeOf(x), tree);
        Checks.due("the input after clear()", x.count(1), 3);
        Checks.addRules(x, "A=aA|d");
        Checks.due("the tree after new rules", Checks.treeOf(x), tree);
        Checks.due("reach() by new rules", x.reach(), 2);
    }

    private static void dueFault(String grammar, int fault, int faulty) {
        FirstTrees x = Checks.of(grammar);
        Checks.due(grammar + ": fault()", x.fault(), fault);
        Checks.due(grammar + ": faulty()", x.faulty(), faulty);
        Checks.due(grammar + ": faulty() once more", x.faulty(), faulty);
        if (fault != 0) {
            Checks.dueThrowOnly(grammar + ": parse()", Checks.STATE, x, () -> x.parse());
            Checks.dueThrow(grammar + ": reach()", Checks.STATE, () -> x.reach());
            Checks.dueThrow(grammar + ": expected(9)", Checks.STATE, () -> x.expected(9));
            Checks.dueThrow(grammar + ": isNothing(99)", Checks.STATE, () -> x.isNothing(99));
            Checks.dueThrow(grammar + ": first(99)", Checks.STATE, () -> x.first(99));
            Checks.dueThrow(grammar + ": following(99)", Checks.STATE, () -> x.following(99));
            Checks.dueThrow(grammar + ": lets(99, 99)", Checks.STATE, () -> x.lets(99, 99));
        }
    }

    private static void faults() {
        dueFault("A=a", 0, FirstTrees.NONE);
        dueFault("A=", 0, FirstTrees.NONE);
        dueFault("A=aA", 0, FirstTrees.NONE);
        dueFault("A=B", 2, 0);
        dueFault("A=a B=aP|b", 2, 1);
        dueFault("A=a B=b|aC", 2, 1);
        FirstTrees x = Checks.of("A=C");
        x.rule();
        Checks.due("C is not there: fault()", x.fault(), 2);
        x.rule();
        Checks.due("B, C without alternative: fault()", x.fault(), 3);
        Checks.due("B, C without alternative: faulty()", x.faulty(), 1);
        x.alternative(1);
        Checks.due("C without alternative: faulty()", x.faulty(), 2);
        x.alternative(2);
        Checks.due("all there: fault()", x.fault(), 0);
        Checks.due("all there: faulty()", x.faulty(), FirstTrees.NONE);
        x.symbol(2, -1);
        Checks.due("A at its own left: fault()", x.fault(), 4);
        Checks.due("A at its own left: faulty()", x.faulty(), 0);
    }

    private static void leastFault() {
        FirstTrees x = Checks.of("A=A B=b");
        Checks.due("4 alone: fault()", x.fault(), 4);
        Checks.due("4 alone: faulty()", x.faulty(), 0);
        x.rule();
        Checks.due("3 before 4: fault()", x.fault(), 3);
        Checks.due("3 before 4: faulty()", x.faulty(), 2);
        x.symbol(1, -8);
        Checks.due("2 before 3: fault()", x.fault(), 2);
        Checks.due("2 before 3: faulty()", x.faulty(), 1);
    }

    private static void atOwnLeft() {
        dueFault("A=A", 4, 0);
        dueFault("A=a|aA|Ab", 4, 0);
        dueFault("A=aB B=b|Bb", 4, 1);
        dueFault("A=aB B=Cb C=Db D=Bb|", 4, 1);
        dueFault("A=a B=D C=B D=Ca", 4, 1);
        // Behind rules that can become nothing, by way of others too.
        dueFault("A=BBAa|a B=b|", 4, 0);
        dueFault("A=BCA|a B=b| C=BB", 4, 0);
        dueFault("A=BCA|a B=b| C=Bc", 0, FirstTrees.NONE);
        dueFault("A=BaA|a B=b|", 0, FirstTrees.NONE);
        dueFault("A=BA|a B=b", 0, FirstTrees.NONE);
        // B never becomes nothing, since it never ends: so A is not at its own left.
        dueFault("A=BA|a B=B", 4, 1);
        dueFault("A=BA|a B=CB C=", 4, 1);
        // A has a rule at its own left at its left, but is not at its own.
        dueFault("A=B|a B=Bb|b", 4, 1);
        dueFault("A=aA B=A", 0, FirstTrees.NONE);
    }

    private static void counts() {
        FirstTrees x = Checks.of("A=a|b|c B=", "abc");
        Checks.due("count(0)", x.count(0), 2);
        Checks.due("count(1)", x.count(1), 3);
        Checks.due("count(2)", x.count(2), 3);
        Checks.due("count(3)", x.count(3), 1);
        Checks.due("count(4)", x.count(4), 0);
        Checks.due("count(17)", x.count(17), 0);
        Checks.dueThrowOnly("count(18)", Checks.ARGUMENT, x, () -> x.count(18));
        Checks.dueThrowOnly("count(-1)", Checks.ARGUMENT, x, () -> x.count(-1));
        Checks.dueThrowOnly("count(greatest)", Checks.ARGUMENT, x,
                () -> x.count(Integer.MAX_VALUE));
        for (int rule = 2; rule < 16; rule++) {
            x.rule();
            x.alternative(rule);
        }
        Checks.due("count(17) of 16 rules", x.count(17), 1);
    }
}

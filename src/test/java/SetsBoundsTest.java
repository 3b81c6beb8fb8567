/**
 * The sentences on sets that name a boundary (the terms, promises 15 to 18): each has a test of
 * its own, at the boundary, just inside it and just outside it.
 */
public final class SetsBoundsTest {
    private static final int[] NO_RULES = {-1, 3, 4, 15, 16, 17, 1 << 29, Integer.MIN_VALUE,
        Integer.MAX_VALUE};
    private static final int[] NO_TOKENS = {-1, 33, 34, 63, 64, 96, Integer.MIN_VALUE,
        Integer.MAX_VALUE};

    public static void main(String[] args) {
        eachOfThemIsARule();
        oneOfWhoseAlternativesCan();
        noSuchRule();
        sixteenthRule();
        refusedWhileNotRight();
        firstOfNothing();
        firstBehindNothing();
        firstOfAllTokens();
        followingOfRuleZero();
        followingOfARuleThatStandsNowhere();
        firstOfWhatStandsBehind();
        ifTheseCanBecomeNothing();
        leastSets();
        followingOfAllTokens();
        tokensThatLetIn();
        noSuchToken();
        letsThrowsTheOneNamedFirst();
        letInByFirst();
        letInByFollowing();
        Checks.end();
    }

    private static void dueNothing(String grammar, boolean isNothing) {
        FirstTrees x = Checks.of(grammar);
        Checks.due(grammar + ": isNothing(0)", x.isNothing(0), isNothing);
    }

    private static void dueFirst(String grammar, String letters) {
        FirstTrees x = Checks.of(grammar);
        Checks.due(grammar + ": first(0)", x.first(0), Checks.set(letters));
    }

    private static void dueFollowing(String grammar, int rule, String letters) {
        FirstTrees x = Checks.of(grammar);
        String name = grammar + ": following(" + rule + ")";
        Checks.due(name, x.following(rule), Checks.set(letters));
    }

    /** Terms: "CAN BECOME NOTHING when each of them is a rule" that can: of none to eight. */
    private static void eachOfThemIsARule() {
        dueNothing("A=", true);
        dueNothing("A=a", false);
        dueNothing("A=B B=", true);
        dueNothing("A=BBBBBBBB B=", true);
        for (int at = 0; at < 8; at++) {
            String row = "B".repeat(at) + "a" + "B".repeat(7 - at);
            dueNothing("A=" + row + " B=", false);
            dueNothing("A=" + row.replace('a', 'C') + " B= C=c", false);
            dueNothing("A=" + row.replace('a', 'C') + " B= C=c|", true);
        }
    }

    /** Terms: "one of whose alternatives can": the first, or the eighth. */
    private static void oneOfWhoseAlternativesCan() {
        dueNothing("A=|a|a|a|a|a|a|a", true);
        dueNothing("A=a|a|a|a|a|a|a|", true);
        dueNothing("A=a|a|a|a|a|a|a|a", false);
        dueNothing("A=aA", false);
        dueNothing("A=aA|", true);
        String chain = "A=B B=C C=D D=E E=F F=G G=H H=I I=J J=K K=L L=M M=N N=O O=P P=";
        dueNothing(chain, true);
        dueNothing(chain + "a", false);
    }

    /** Promises 15 to 18: "IndexOutOfBoundsException" (there is no such rule). */
    private static void noSuchRule() {
        FirstTrees x = Checks.of("A=aB B=bC| C=c|");
        for (int rule : NO_RULES) {
            Checks.dueThrowOnly("isNothing(" + rule + ")", Checks.INDEX, x,
                    () -> x.isNothing(rule));
            Checks.dueThrowOnly("first(" + rule + ")", Checks.INDEX, x, () -> x.first(rule));
            Checks.dueThrowOnly("following(" + rule + ")", Checks.INDEX, x,
                    () -> x.following(rule));
            Checks.dueThrowOnly("lets(" + rule + ", 0)", Checks.INDEX, x, () -> x.lets(rule, 0));
        }
        Checks.due("isNothing(0)", x.isNothing(0), false);
        Checks.due("isNothing(2)", x.isNothing(2), true);
        Checks.due("first(0)", x.first(0), Checks.set("a"));
        Checks.due("first(2)", x.first(2), Checks.set("c"));
        Checks.due("following(0)", x.following(0), Checks.set("$"));
        Checks.due("following(2)", x.following(2), Checks.set("$"));
        Checks.due("lets(0, 0)", x.lets(0, 0), 1);
        Checks.due("lets(2, 2)", x.lets(2, 2), 1);
    }

    /** Promises 15 to 18, of the last rule that there can be. */
    private static void sixteenthRule() {
        String fifteen = "A=aP B= C= D= E= F= G= H= I= J= K= L= M= N= O=";
        FirstTrees x = Checks.of(fifteen + " P=p|");
        Checks.due("isNothing(15)", x.isNothing(15), true);
        Checks.due("first(15)", x.first(15), Checks.set("p"));
        Checks.due("following(15)", x.following(15), Checks.set("$"));
        Checks.due("lets(15, p)", x.lets(15, 'p' - 'a'), 1);
        Checks.due("lets(15, end)", x.lets(15, 32), 2);
        Checks.dueThrow("isNothing(16)", Checks.INDEX, () -> x.isNothing(16));
        Checks.dueThrow("first(16)", Checks.INDEX, () -> x.first(16));
        Checks.dueThrow("following(16)", Checks.INDEX, () -> x.following(16));
        Checks.dueThrow("lets(16, 0)", Checks.INDEX, () -> x.lets(16, 0));
        FirstTrees y = Checks.of(fifteen.replace("aP", "a"));
        Checks.due("first(14) of 15", y.first(14), 0);
        Checks.dueThrow("first(15) of 15", Checks.INDEX, () -> y.first(15));
    }

    /** Promises 15 to 18: "IllegalStateException", named before the others. */
    private static void refusedWhileNotRight() {
        for (String grammar : new String[] {"", "A=aD B= C=", "A= B C=", "A= B=CB C="}) {
            FirstTrees x = Checks.of(grammar);
            String name = "'" + grammar + "': ";
            for (int rule : new int[] {-1, 0, 2, 3, 16}) {
                Checks.dueThrowOnly(name + "isNothing(" + rule + ")", Checks.STATE, x,
                        () -> x.isNothing(rule));
                Checks.dueThrowOnly(name + "first(" + rule + ")", Checks.STATE, x,
                        () -> x.first(rule));
                Checks.dueThrowOnly(name + "following(" + rule + ")", Checks.STATE, x,
                        () -> x.following(rule));
                Checks.dueThrowOnly(name + "lets(" + rule + ", 0)", Checks.STATE, x,
                        () -> x.lets(rule, 0));
                Checks.dueThrowOnly(name + "lets(" + rule + ", 33)", Checks.STATE, x,
                        () -> x.lets(rule, 33));
            }
        }
    }

    /** Terms: "FIRST tokens of a row of symbols", where there is no symbol, or none in front. */
    private static void firstOfNothing() {
        dueFirst("A=", "");
        dueFirst("A=|", "");
        dueFirst("A=BBBBBBBB B=", "");
        dueFirst("A=|a", "a");
        dueFirst("A=a", "a");
        // The end is not among them, even if it can become nothing.
        dueFirst("A=B B=b|", "b");
    }

    /** Terms: "that can be in front": behind none to seven rules that can become nothing. */
    private static void firstBehindNothing() {
        for (int at = 0; at < 8; at++) {
            dueFirst("A=" + "B".repeat(at) + "a" + " B=", "a");
            dueFirst("A=" + "B".repeat(at) + "a" + " B=b|", at == 0 ? "a" : "ab");
            dueFirst("A=" + "B".repeat(at) + "a" + " B=b", at == 0 ? "a" : "b");
        }
        dueFirst("A=BCDEFGHa B=b| C=c| D=d| E=e| F=f| G=g| H=h|", "abcdefgh");
        dueFirst("A=BCDEFGHa B=b| C=c| D=d| E=e F=f| G=g| H=h|", "bcde");
        dueFirst("A=ab", "a");
        dueFirst("A=a|b|c|d|e|f|g|h", "abcdefgh");
    }

    /** Rules 1 to 4 have an alternative for each of eight tokens; rule 0 is one of the four. */
    private static FirstTrees withAllTokens() {
        FirstTrees x = new FirstTrees();
        for (int rule = 0; rule < 5; rule++) {
            x.rule();
        }
        for (int rule = 1; rule < 5; rule++) {
            x.alternative(0);
            x.symbol(0, -1 - rule);
            for (int k = 0; k < 8; k++) {
                x.alternative(rule);
                x.symbol(rule, 8 * (rule - 1) + k);
            }
        }
        return x;
    }

    /** Terms: "bit t for token t": token 31 makes no other bit. */
    private static void firstOfAllTokens() {
        FirstTrees x = withAllTokens();
        Checks.due("first(0) of all", x.first(0), 0xFFFFFFFFL);
        Checks.due("first(1)", x.first(1), 0xFFL);
        Checks.due("first(4)", x.first(4), 0xFF000000L);
        dueFirst("A=6", "6");
        FirstTrees y = Checks.of("A=6");
        Checks.due("token 31 alone", y.first(0), 0x80000000L);
    }

    /** Terms: "of rule 0 also the end". */
    private static void followingOfRuleZero() {
        dueFollowing("A=", 0, "$");
        dueFollowing("A=aAb|", 0, "b$");
        dueFollowing("A= B=", 1, "");
        dueFollowing("A=aB B=b", 1, "$");
        dueFollowing("A=a B=Ac", 0, "c$");
    }

    /** Terms: "for each place where it stands", where there is none. */
    private static void followingOfARuleThatStandsNowhere() {
        dueFollowing("A=a B=b", 1, "");
        dueFollowing("A=a B=bB", 1, "");
        dueFollowing("A=a B=bC C=c", 2, "");
        dueFollowing("A=a B=bBc", 1, "c");
        dueFollowing("A=a B=bCd C=c", 2, "d");
    }

    /** Terms: "the first ones of the symbols behind it there": of none to seven. */
    private static void firstOfWhatStandsBehind() {
        dueFollowing("A=Ba B=", 1, "a");
        dueFollowing("A=BCCCCCCa B= C=", 1, "a");
        dueFollowing("A=BCDEFGHa B= C=c| D=d| E=e| F=f| G=g| H=h|", 1, "acdefgh");
        dueFollowing("A=BCDEFGHa B= C=c| D=d| E=e| F=f G=g| H=h|", 1, "cdef");
        dueFollowing("A=BBBBBBBB B=b", 1, "b$");
        dueFollowing("A=BBBBBBBa B=", 1, "a");
        dueFollowing("A=aaaaaaaB B=", 1, "$");
        // Each of eight places in eight alternatives.
        dueFollowing("A=Ba|Bb|Bc|Bd|Be|Bf|Bg|B B=", 1, "abcdefg$");
    }

    /** Terms: "if these can become nothing, the following ones of that rule". */
    private static void ifTheseCanBecomeNothing() {
        dueFollowing("A=aBc B=bC C=", 2, "c");
        dueFollowing("A=aBc B=bCD C= D=d|", 2, "cd");
        dueFollowing("A=aBc B=bCD C= D=d", 2, "d");
        dueFollowing("A=aBc B=bCDDDDDD C= D=d|", 2, "cd");
        dueFollowing("A=aBc B=bCDDDDDd C= D=", 2, "d");
        // By way of all the other rules.
        String chain = "A=aB B=bC C=cD D=dE E=eF F=fG G=gH H=hI I=iJ J=jK K=kL L=lM M=mN N=nO O=oP";
        dueFollowing(chain + " P=", 15, "$");
        dueFollowing(chain.replace("A=aB", "A=aBz") + " P=", 15, "z");
        String against = "A=aP B= C=cB D=dC E=eD F=fE G=gF H=hG I=hH J=jI K=kJ L=lK M=mL N=nM O=nN";
        dueFollowing(against + " P=pO", 1, "$");
        dueFollowing(against.replace("A=aP", "A=aPz") + " P=pO", 1, "z");
    }

    /** Terms: "(the least sets of which that is so)". */
    private static void leastSets() {
        // B and C are followed by what follows each other, and by nothing else.
        dueFollowing("A=a B=bC|b C=cB", 1, "");
        dueFollowing("A=a B=bC|b C=cB", 2, "");
        dueFollowing("A=aBa B=bC|b C=cB", 2, "a");
        dueFollowing("A=aA|a", 0, "$");
    }

    /** Terms: "bit t for token t, bit 32 for the end": all of them. */
    private static void followingOfAllTokens() {
        FirstTrees x = withAllTokens();
        x.rule();
        x.alternative(5);
        for (int rule = 1; rule < 5; rule++) {
            x.alternative(5);
            x.symbol(5, -1);
            x.symbol(5, -1 - rule);
        }
        Checks.due("following(0) of all", x.following(0), 0x1FFFFFFFFL);
        Checks.due("following(1)", x.following(1), 0x1FFFFFFFFL);
        Checks.due("following(5)", x.following(5), 0);
        dueFollowing("A=aAa|aA6", 0, "a6$");
    }

    /** Promise 18: "(bit k for alternative k)": none, the first, the eighth, all. */
    private static void tokensThatLetIn() {
        FirstTrees x = Checks.of("A=a|b|b|b|b|b|b|c");
        Checks.due("lets(0, a)", x.lets(0, 0), 0b00000001);
        Checks.due("lets(0, b)", x.lets(0, 1), 0b01111110);
        Checks.due("lets(0, c)", x.lets(0, 2), 0b10000000);
        Checks.due("lets(0, d)", x.lets(0, 3), 0);
        Checks.due("lets(0, end)", x.lets(0, 32), 0);
        FirstTrees y = Checks.of("A=|||||||");
        Checks.due("lets(0, end) of eight", y.lets(0, 32), 0b11111111);
        Checks.due("lets(0, a) of eight", y.lets(0, 0), 0);
    }

    /** Promise 18: "there is no such token" ("one token (32: the end)"). */
    private static void noSuchToken() {
        FirstTrees x = Checks.of("A=a|6|");
        for (int t : NO_TOKENS) {
            Checks.dueThrowOnly("lets(0, " + t + ")", Checks.ARGUMENT, x, () -> x.lets(0, t));
        }
        Checks.due("lets(0, 0)", x.lets(0, 0), 0b001);
        Checks.due("lets(0, 1)", x.lets(0, 1), 0);
        Checks.due("lets(0, 30)", x.lets(0, 30), 0);
        Checks.due("lets(0, 31)", x.lets(0, 31), 0b010);
        Checks.due("lets(0, 32)", x.lets(0, 32), 0b100);
    }

    /** Terms: "the one named first when several would do", of `lets`, which names three. */
    private static void letsThrowsTheOneNamedFirst() {
        FirstTrees x = Checks.of("A=aB");
        Checks.dueThrowOnly("not right, no rule, no token", Checks.STATE, x, () -> x.lets(2, 33));
        Checks.dueThrowOnly("not right, no rule", Checks.STATE, x, () -> x.lets(2, 32));
        Checks.dueThrowOnly("not right, no token", Checks.STATE, x, () -> x.lets(0, 33));
        Checks.dueThrowOnly("not right", Checks.STATE, x, () -> x.lets(0, 32));
        x.rule();
        x.alternative(1);
        Checks.dueThrowOnly("no rule, no token", Checks.INDEX, x, () -> x.lets(2, 33));
        Checks.dueThrowOnly("no rule", Checks.INDEX, x, () -> x.lets(2, 32));
        Checks.dueThrowOnly("no token", Checks.ARGUMENT, x, () -> x.lets(0, 33));
        Checks.due("nothing wrong", x.lets(0, 0), 1);
    }

    /** Promise 18: "it is among their first ones", whether or not it follows the rule. */
    private static void letInByFirst() {
        FirstTrees x = Checks.of("A=aB B=b|Cb C=c|");
        Checks.due("lets(1, b)", x.lets(1, 1), 0b11);
        Checks.due("lets(1, c)", x.lets(1, 2), 0b10);
        Checks.due("lets(1, end)", x.lets(1, 32), 0);
    }

    /** Promise 18: "or they can become nothing, and it follows the rule". */
    private static void letInByFollowing() {
        FirstTrees x = Checks.of("A=aBd B=b|CC| C=c|");
        Checks.due("lets(1, d)", x.lets(1, 3), 0b110);
        Checks.due("lets(1, c)", x.lets(1, 2), 0b010);
        Checks.due("lets(1, a)", x.lets(1, 0), 0);
        Checks.due("lets(1, end)", x.lets(1, 32), 0);
        Checks.due("lets(2, c)", x.lets(2, 2), 0b11);
        Checks.due("lets(2, d)", x.lets(2, 3), 0b10);
        // It can become nothing, but nothing follows it.
        FirstTrees y = Checks.of("A=a B=|b");
        Checks.due("lets(1, end) of what stands nowhere", y.lets(1, 32), 0);
        Checks.due("lets(1, b) of it", y.lets(1, 1), 0b10);
    }
}

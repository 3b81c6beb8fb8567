/** Promises 15 to 18: what a grammar says of its rules without an input. */
public final class SetsTest {
    public static void main(String[] args) {
        sums();
        nothing();
        firsts();
        followings();
        lets();
        greatestTokens();
        longChains();
        newAfterChange();
        wrongArguments();
        Checks.end();
    }

    private static void dueRule(
            FirstTrees x, int rule, boolean isNothing, String first, String following) {
        String name = "rule " + rule + ": ";
        Checks.due(name + "isNothing", x.isNothing(rule), isNothing);
        Checks.due(name + "first", x.first(rule), Checks.set(first));
        Checks.due(name + "following", x.following(rule), Checks.set(following));
    }

    private static void sums() {
        // E = T E', E' = p T E' | , T = F T', T' = m F T' | , F = o E c | i
        FirstTrees x = Checks.of("A=CB B=pCB| C=ED D=mED| E=oAc|i");
        dueRule(x, 0, false, "oi", "c$");
        dueRule(x, 1, true, "p", "c$");
        dueRule(x, 2, false, "oi", "pc$");
        dueRule(x, 3, true, "m", "pc$");
        dueRule(x, 4, false, "oi", "mpc$");
        Checks.due("sums: lets(1, p)", x.lets(1, 'p' - 'a'), 1);
        Checks.due("sums: lets(1, c)", x.lets(1, 'c' - 'a'), 2);
        Checks.due("sums: lets(1, end)", x.lets(1, 32), 2);
        Checks.due("sums: lets(1, m)", x.lets(1, 'm' - 'a'), 0);
        Checks.due("sums: lets(0, o)", x.lets(0, 'o' - 'a'), 1);
        Checks.due("sums: lets(4, i)", x.lets(4, 'i' - 'a'), 2);
        Checks.due("sums: lets(4, end)", x.lets(4, 32), 0);
    }

    private static void nothing() {
        FirstTrees x = Checks.of("A=BC|a B=DD C=c|B D=|d E=Ae F=aF");
        int[] want = {1, 1, 1, 1, 0, 0};
        for (int rule = 0; rule < want.length; rule++) {
            Checks.due("isNothing(" + rule + ")", x.isNothing(rule) ? 1 : 0, want[rule]);
        }
    }

    private static void firsts() {
        FirstTrees x = Checks.of("A=BCd B=b| C=c| D=ABe E=Fa F=fF G=");
        String[] want = {"bcd", "b", "c", "bcd", "f", "f", ""};
        for (int rule = 0; rule < want.length; rule++) {
            Checks.due("first(" + rule + ")", x.first(rule), Checks.set(want[rule]));
        }
    }

    private static void followings() {
        // Rule D stands nowhere, but what stands in it counts; it is followed by nothing.
        FirstTrees x = Checks.of("A=BC B=b C=|cB D=dAe|BD");
        String[] want = {"e$", "bcde$", "e$", ""};
        for (int rule = 0; rule < want.length; rule++) {
            Checks.due("following(" + rule + ")", x.following(rule), Checks.set(want[rule]));
        }
        // Around in a ring: each is followed by what follows the others.
        x.clear();
        Checks.addRules(x, "A=aB|aDx B=bC C=cA|cD D=dB|");
        for (int rule = 0; rule < 4; rule++) {
            Checks.due("ring: following(" + rule + ")", x.following(rule), Checks.set("x$"));
        }
        // The same rule twice in one alternative.
        x.clear();
        Checks.addRules(x, "A=BaBb B=|c");
        Checks.due("twice: following(1)", x.following(1), Checks.set("ab"));
        Checks.due("twice: following(0)", x.following(0), Checks.set("$"));
    }

    private static void lets() {
        FirstTrees x = Checks.of("A=Bx B=a||C|ab|Cb C=c|");
        Checks.due("lets(1, a)", x.lets(1, 0), 0b01001);
        Checks.due("lets(1, b)", x.lets(1, 1), 0b10000);
        Checks.due("lets(1, c)", x.lets(1, 2), 0b10100);
        Checks.due("lets(1, x)", x.lets(1, 'x' - 'a'), 0b00110);
        Checks.due("lets(1, end)", x.lets(1, 32), 0);
        Checks.due("lets(2, b)", x.lets(2, 1), 0b10);
        Checks.due("lets(0, x)", x.lets(0, 'x' - 'a'), 1);
        x.clear();
        Checks.addRules(x, "A=a||||||a|");
        Checks.due("lets(0, end) of 8", x.lets(0, 32), 0b10111110);
        Checks.due("lets(0, a) of 8", x.lets(0, 0), 0b01000001);
    }

    private static void greatestTokens() {
        FirstTrees x = new FirstTrees();
        x.rule();
        x.rule();
        x.alternative(0);
        x.symbol(0, -2);
        x.symbol(0, 31);
        x.alternative(1);
        x.symbol(1, 30);
        x.alternative(1);
        Checks.due("first(0)", x.first(0), 1L << 30 | 1L << 31);
        Checks.due("following(1)", x.following(1), 1L << 31);
        Checks.due("lets(1, 31)", x.lets(1, 31), 2);
        Checks.due("lets(1, 30)", x.lets(1, 30), 1);
        Checks.due("lets(1, 32)", x.lets(1, 32), 0);
        Checks.due("lets(1, 0)", x.lets(1, 0), 0);
    }

    /** What is found of one rule by way of all the 15 others, against their order and along it. */
    private static void longChains() {
        FirstTrees x = Checks.of(
                "A=BB B=CC C=DD D=EE E=FF F=GG G=HH H=II I=JJ J=KK K=LL L=MM M=NN N=OO O=PP P=p|");
        dueRule(x, 0, true, "p", "$");
        dueRule(x, 15, true, "p", "p$");
        Checks.due("lets(0, end)", x.lets(0, 32), 1);
        x.clear();
        Checks.addRules(x,
                "A=aP B=b C=B D=C E=D F=E G=F H=G I=H J=I K=J L=K M=L N=M O=N P=O");
        dueRule(x, 1, false, "b", "$");
        dueRule(x, 15, false, "b", "$");
        x.alternative(1);
        dueRule(x, 15, true, "b", "$");
    }

    private static void newAfterChange() {
        FirstTrees x = Checks.of("A=aB B=b");
        Checks.due("before: first(1)", x.first(1), Checks.set("b"));
        Checks.due("before: following(1)", x.following(1), Checks.set("$"));
        x.symbol(0, 2);
        Checks.due("after a symbol: following(1)", x.following(1), Checks.set("c"));
        x.alternative(1);
        Checks.due("after an alternative: isNothing(1)", x.isNothing(1), true);
        x.rule();
        Checks.dueThrow("after a rule: first(0)", Checks.STATE, () -> x.first(0));
        x.alternative(2);
        Checks.due("first(2)", x.first(2), 0);
        Checks.due("following(2)", x.following(2), 0);
    }

    private static void wrongArguments() {
        FirstTrees x = Checks.of("A=aB B=b");
        for (int rule : new int[] {2, -1, 16, Integer.MAX_VALUE, Integer.MIN_VALUE}) {
            Checks.dueThrowOnly("isNothing(" + rule + ")", Checks.INDEX, x,
                    () -> x.isNothing(rule));
            Checks.dueThrowOnly("first(" + rule + ")", Checks.INDEX, x, () -> x.first(rule));
            Checks.dueThrowOnly("following(" + rule + ")", Checks.INDEX, x,
                    () -> x.following(rule));
            Checks.dueThrowOnly("lets(" + rule + ", 99)", Checks.INDEX, x, () -> x.lets(rule, 99));
        }
        for (int t : new int[] {33, -1, Integer.MAX_VALUE, Integer.MIN_VALUE}) {
            Checks.dueThrowOnly("lets(0, " + t + ")", Checks.ARGUMENT, x, () -> x.lets(0, t));
        }
    }
}

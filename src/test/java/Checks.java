/**
 * What the tests share. Grammars are written as texts: "A=aBB|a B=b| C" has rule 0 (A), rule 1
 * (B) and rule 2 (C); small letters are tokens from 0 on, capital letters rules, nothing is an
 * alternative without symbols, and C has no alternative. Inputs are texts of small letters.
 * Tokens 26 to 31, for which there is no letter, are written 1 to 6.
 */
final class Checks {
    interface Call {
        void go();
    }

    static final Class<IndexOutOfBoundsException> INDEX = IndexOutOfBoundsException.class;
    static final Class<IllegalArgumentException> ARGUMENT = IllegalArgumentException.class;
    static final Class<IllegalStateException> STATE = IllegalStateException.class;
    static final Class<UnsupportedOperationException> FULL = UnsupportedOperationException.class;

    static final long END = 1L << 32;

    private static int wrong;

    private Checks() {}

    static void due(String what, long got, long want) {
        if (got != want) {
            wrong++;
            System.out.println(what + " answered " + got + ", due is " + want);
        }
    }

    static void due(String what, String got, String want) {
        if (!got.equals(want)) {
            wrong++;
            System.out.println(what + " answered " + got + ", due is " + want);
        }
    }

    static void due(String what, boolean got, boolean want) {
        due(what, String.valueOf(got), String.valueOf(want));
    }

    static void dueThrow(String what, Class<? extends RuntimeException> want, Call call) {
        String got = "nothing";
        try {
            call.go();
        } catch (RuntimeException e) {
            got = e.getClass().getName();
        }
        due(what + " throws", got, want.getName());
    }

    /** The call throws, and all that the object tells is the same before and after it. */
    static void dueThrowOnly(
            String what, Class<? extends RuntimeException> want, FirstTrees x, Call call) {
        String before = allOf(x);
        dueThrow(what, want, call);
        due("all that is told after " + what, allOf(x), before);
    }

    static void end() {
        String some = wrong + " answers are not as due";
        System.out.println(wrong == 0 ? "all answers are as due" : some);
        if (wrong != 0) {
            System.exit(1);
        }
    }

    static FirstTrees of(String grammar) {
        FirstTrees x = new FirstTrees();
        addRules(x, grammar);
        return x;
    }

    static FirstTrees of(String grammar, String input) {
        FirstTrees x = of(grammar);
        addTokens(x, input);
        return x;
    }

    static void addRules(FirstTrees x, String grammar) {
        int rules = numberOfRules(grammar);
        for (int rule = 0; rule < rules; rule++) {
            x.rule();
        }
        for (int rule = 0; rule < rules; rule++) {
            for (String alternative : alternativesOf(grammar, rule)) {
                x.alternative(rule);
                for (char c : alternative.toCharArray()) {
                    x.symbol(rule, symbolOf(c));
                }
            }
        }
    }

    static int numberOfRules(String grammar) {
        return grammar.isEmpty() ? 0 : grammar.split(" ").length;
    }

    static String[] alternativesOf(String grammar, int rule) {
        String text = grammar.split(" ")[rule];
        return text.length() == 1 ? new String[0] : text.substring(2).split("\\|", -1);
    }

    static int symbolOf(char c) {
        boolean isRule = c >= 'A' && c <= 'Z';
        return isRule ? -1 - (c - 'A') : tokenOf(c);
    }

    static int tokenOf(char c) {
        return c >= 'a' ? c - 'a' : 25 + (c - '0');
    }

    static void addTokens(FirstTrees x, String input) {
        for (char c : input.toCharArray()) {
            x.token(tokenOf(c));
        }
    }

    static void setInput(FirstTrees x, String input) {
        x.keep(0);
        addTokens(x, input);
    }

    /** A set from letters, '$' for the end. */
    static long set(String letters) {
        long set = 0;
        for (char c : letters.toCharArray()) {
            set |= c == '$' ? END : 1L << tokenOf(c);
        }
        return set;
    }

    /** Each node as rule.alternative:begin-end^above/below?look. */
    static String treeOf(FirstTrees x) {
        StringBuilder all = new StringBuilder();
        for (int i = 0; i < x.nodes(); i++) {
            all.append(i == 0 ? "" : " ");
            all.append((char) ('A' + x.node(i, 0))).append(x.node(i, 1));
            all.append(':').append(x.node(i, 2)).append('-').append(x.node(i, 3));
            all.append('^').append(x.node(i, 4)).append('/').append(x.node(i, 5));
            all.append('?').append(x.node(i, 6));
        }
        return all.toString();
    }

    static String allOf(FirstTrees x) {
        StringBuilder all = new StringBuilder();
        for (int what = 0; what < 18; what++) {
            all.append(x.count(what)).append(' ');
        }
        all.append("fault ").append(x.fault()).append(' ').append(x.faulty());
        all.append(" tree ").append(treeOf(x));
        if (x.fault() != 0) {
            return all.toString();
        }
        all.append(" reach ").append(x.reach());
        for (int place = 0; place <= x.count(1); place++) {
            all.append(' ').append(x.expected(place));
        }
        for (int rule = 0; rule < x.count(0); rule++) {
            all.append(" rule ").append(x.isNothing(rule)).append(' ').append(x.first(rule));
            all.append(' ').append(x.following(rule));
            for (int t = 0; t <= 32; t++) {
                all.append(' ').append(x.lets(rule, t));
            }
        }
        return all.toString();
    }
}

import java.util.ArrayList;
import java.util.List;

/**
 * Every method of the face, with arguments around each boundary, in many states: a call throws
 * what the document names first, or nothing; and when it throws, a twin of the object to which the
 * call was never made answers all later calls alike.
 */
public final class RefusedTest {
    private static final int LEAST = Integer.MIN_VALUE;
    private static final int GREATEST = Integer.MAX_VALUE;
    private static final String NOTHING = "nothing";
    private static final String INDEX = "IndexOutOfBoundsException";
    private static final String ARGUMENT = "IllegalArgumentException";
    private static final String STATE = "IllegalStateException";
    private static final String FULL = "UnsupportedOperationException";

    private static final String LARGE = "A=BBBBBBBB|a B=CCCCCCCC C=DDDDDDDD D=EEEEEEEE E=";
    private static final String SIXTEEN =
            "A=BB|b B=C|c|c|c|c|c|c|d C=aaaaaaa D=| E= F= G= H= I= J= K= L= M= N= O= P=aaaaaaaa";

    private interface Question {
        void ask(FirstTrees x);
    }

    /** What an object has been told, and what is known of it from that. */
    private static final class Scene {
        final String earlierGrammar;
        final String earlierInput;
        final String grammar;
        final String input;
        final int nodes;
        final boolean isRight;
        final boolean isTooLarge;

        Scene(String earlier, String grammar, String input, int nodes, String kind) {
            int at = earlier.indexOf('/');
            this.earlierGrammar = earlier.substring(0, at);
            this.earlierInput = earlier.substring(at + 1);
            this.grammar = grammar;
            this.input = input;
            this.nodes = nodes;
            this.isRight = !kind.equals("wrong");
            this.isTooLarge = kind.equals("large");
        }

        /** Its tree is that of the earlier grammar and input. */
        FirstTrees make() {
            FirstTrees x = Checks.of(earlierGrammar, earlierInput);
            if (!earlierGrammar.isEmpty()) {
                x.parse();
            }
            x.clear();
            Checks.addRules(x, grammar);
            Checks.setInput(x, input);
            return x;
        }

        int rules() {
            return Checks.numberOfRules(grammar);
        }

        boolean hasRule(int rule) {
            return rule >= 0 && rule < rules();
        }

        int alternatives(int rule) {
            return Checks.alternativesOf(grammar, rule).length;
        }

        int latestLength(int rule) {
            return Checks.alternativesOf(grammar, rule)[alternatives(rule) - 1].length();
        }

        @Override
        public String toString() {
            return "[" + grammar + " on " + input + " after " + earlierGrammar + "] ";
        }
    }

    private static int asked;
    private static int refused;
    private static Scene scene;
    private static String laterAnswers;

    public static void main(String[] args) {
        for (Scene next : scenes()) {
            scene = next;
            laterAnswers = later(scene.make());
            grammarCalls();
            inputCalls();
            treeCalls();
            reachCalls();
            ruleCalls();
            countCalls();
        }
        System.out.println(asked + " calls, " + refused + " of them refused");
        Checks.due("enough calls were refused", refused > 2000, true);
        Checks.end();
    }

    private static List<Scene> scenes() {
        String three = "A=aA|b/aab";
        String sixty = "A=aA|/" + "a".repeat(60);
        List<Scene> scenes = new ArrayList<>();
        scenes.add(new Scene("/", "", "", 0, "wrong"));
        scenes.add(new Scene("/", "A", "", 0, "wrong"));
        scenes.add(new Scene("/", "A=", "", 0, "right"));
        scenes.add(new Scene("/", "A=aA|b", "aab", 0, "right"));
        scenes.add(new Scene(three, "", "aab", 3, "wrong"));
        scenes.add(new Scene(three, "A=aA|b", "aab", 3, "right"));
        scenes.add(new Scene(three, "A=aA|b B=|||||||", "aac", 3, "right"));
        scenes.add(new Scene("A=a/b", "A=aB B=b|", "b", 0, "right"));
        scenes.add(new Scene(three, "A=aC B=b", "aab", 3, "wrong"));
        scenes.add(new Scene(three, "A=aA|b B", "a", 3, "wrong"));
        scenes.add(new Scene(three, "A=aA|b B=CB C=", "", 3, "wrong"));
        scenes.add(new Scene(three, LARGE, "", 3, "large"));
        scenes.add(new Scene("/", LARGE, "", 0, "large"));
        scenes.add(new Scene(three, LARGE, "a", 3, "right"));
        scenes.add(new Scene(sixty, "A=aA|b|aaaaaaaa", "a".repeat(60), 61, "right"));
        scenes.add(new Scene(sixty, "A=aA|b", "a".repeat(59) + "b", 61, "right"));
        scenes.add(new Scene(sixty, SIXTEEN, "a".repeat(14), 61, "right"));
        scenes.add(new Scene(three, SIXTEEN + "|P", "a".repeat(60), 3, "wrong"));
        return scenes;
    }

    /** What later calls show: all questions, then parse, then the same after some changes. */
    private static String later(FirstTrees x) {
        StringBuilder all = new StringBuilder();
        all.append(Checks.allOf(x));
        all.append(" parse ").append(answer(() -> x.parse()));
        all.append(Checks.treeOf(x));
        for (int rule = 0; rule < x.count(0); rule++) {
            int of = rule;
            all.append(" symbol ").append(answer(() -> x.symbol(of, 0)));
            all.append(" alternative ").append(answer(() -> x.alternative(of)));
        }
        all.append(" rule ").append(answer(() -> x.rule()));
        all.append(" token ").append(answer(() -> x.token(0)));
        all.append(Checks.allOf(x));
        all.append(" parse ").append(answer(() -> x.parse()));
        all.append(Checks.treeOf(x));
        all.append(" clear ").append(x.clear());
        return all.toString();
    }

    private interface Answer {
        int get();
    }

    private static String answer(Answer call) {
        try {
            return String.valueOf(call.get());
        } catch (RuntimeException e) {
            return e.getClass().getSimpleName();
        }
    }

    private static void due(String call, String want, Question question) {
        FirstTrees x = scene.make();
        String got = NOTHING;
        try {
            question.ask(x);
        } catch (RuntimeException e) {
            got = e.getClass().getSimpleName();
        }
        asked++;
        Checks.due(scene + call + " throws", got, want);
        if (!want.equals(NOTHING)) {
            refused++;
            Checks.due(scene + "after " + call, later(x), laterAnswers);
        }
    }

    private static int[] ruleNumbers() {
        int n = scene.rules();
        return new int[] {LEAST, -2, -1, 0, 1, n - 1, n, n + 1, 15, 16, 1 << 26, 1 << 29, GREATEST};
    }

    private static void grammarCalls() {
        due("rule()", scene.rules() == 16 ? FULL : NOTHING, x -> x.rule());
        due("clear()", NOTHING, x -> x.clear());
        due("fault()", NOTHING, x -> x.fault());
        due("faulty()", NOTHING, x -> x.faulty());
        for (int rule : ruleNumbers()) {
            due("alternative(" + rule + ")", dueOfAlternative(rule), x -> x.alternative(rule));
            for (int symbol : new int[] {LEAST, -18, -17, -16, -1, 0, 31, 32, 33, GREATEST}) {
                due("symbol(" + rule + ", " + symbol + ")", dueOfSymbol(rule, symbol),
                        x -> x.symbol(rule, symbol));
            }
        }
    }

    private static String dueOfAlternative(int rule) {
        if (!scene.hasRule(rule)) {
            return INDEX;
        }
        return scene.alternatives(rule) == 8 ? FULL : NOTHING;
    }

    private static String dueOfSymbol(int rule, int symbol) {
        if (!scene.hasRule(rule)) {
            return INDEX;
        }
        if (symbol < -16 || symbol > 31) {
            return ARGUMENT;
        }
        if (scene.alternatives(rule) == 0) {
            return STATE;
        }
        return scene.latestLength(rule) == 8 ? FULL : NOTHING;
    }

    private static void inputCalls() {
        int size = scene.input.length();
        for (int t : new int[] {LEAST, -16, -1, 0, 30, 31, 32, 33, GREATEST}) {
            String most = size == 60 ? FULL : NOTHING;
            due("token(" + t + ")", t < 0 || t > 31 ? ARGUMENT : most, x -> x.token(t));
        }
        for (int n : new int[] {LEAST, -1, 0, size - 1, size, size + 1, 59, 60, 61, GREATEST}) {
            due("keep(" + n + ")", n < 0 || n > size ? ARGUMENT : NOTHING, x -> x.keep(n));
        }
    }

    private static void treeCalls() {
        String large = scene.isTooLarge ? FULL : NOTHING;
        due("parse()", scene.isRight ? large : STATE, x -> x.parse());
        due("nodes()", NOTHING, x -> x.nodes());
        int n = scene.nodes;
        for (int i : new int[] {LEAST, -1, 0, n - 1, n, n + 1, 1999, 2000, 613566757, GREATEST}) {
            for (int what : new int[] {LEAST, -1, 0, 6, 7, GREATEST}) {
                String fact = what < 0 || what > 6 ? ARGUMENT : NOTHING;
                due("node(" + i + ", " + what + ")", i < 0 || i >= n ? INDEX : fact,
                        x -> x.node(i, what));
            }
        }
    }

    private static void reachCalls() {
        due("reach()", scene.isRight ? NOTHING : STATE, x -> x.reach());
        int size = scene.input.length();
        for (int place : new int[] {LEAST, -1, 0, size - 1, size, size + 1, 60, 61, 64, GREATEST}) {
            String there = place < 0 || place > size ? ARGUMENT : NOTHING;
            due("expected(" + place + ")", scene.isRight ? there : STATE, x -> x.expected(place));
        }
    }

    private static void ruleCalls() {
        for (int rule : ruleNumbers()) {
            String there = scene.hasRule(rule) ? NOTHING : INDEX;
            String want = scene.isRight ? there : STATE;
            due("isNothing(" + rule + ")", want, x -> x.isNothing(rule));
            due("first(" + rule + ")", want, x -> x.first(rule));
            due("following(" + rule + ")", want, x -> x.following(rule));
            for (int t : new int[] {LEAST, -1, 0, 31, 32, 33, 64, GREATEST}) {
                String token = t < 0 || t > 32 ? ARGUMENT : NOTHING;
                due("lets(" + rule + ", " + t + ")", want.equals(NOTHING) ? token : want,
                        x -> x.lets(rule, t));
            }
        }
    }

    private static void countCalls() {
        for (int what : new int[] {LEAST, -1, 0, 1, 2, 16, 17, 18, 19, GREATEST}) {
            due("count(" + what + ")", what < 0 || what > 17 ? ARGUMENT : NOTHING,
                    x -> x.count(what));
        }
    }
}

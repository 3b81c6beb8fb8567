/** Promises 13 and 14: where a row goes wrong, and what could have come there. */
public final class ReachTest {
    public static void main(String[] args) {
        reaches();
        expected();
        expectedAtEachPlace();
        expectedAsTheDocumentSays();
        wrongPlaces();
        fullInput();
        Checks.end();
    }

    private static void dueReach(String grammar, String input, int place) {
        FirstTrees x = Checks.of(grammar, input);
        Checks.due(grammar + " on '" + input + "': reach()", x.reach(), place);
        Checks.due(grammar + " on '" + input + "': nodes()", x.nodes(), 0);
    }

    private static void reaches() {
        dueReach("A=", "", 1);
        dueReach("A=", "a", 0);
        dueReach("A=a", "", 0);
        dueReach("A=a", "b", 0);
        dueReach("A=a", "a", 2);
        dueReach("A=a", "aa", 1);
        dueReach("A=abc", "abb", 2);
        dueReach("A=abc", "ab", 2);
        dueReach("A=abc|aba", "abac", 3);
        // The farthest of all ways counts, not the one that fits.
        dueReach("A=Bc B=a|aab", "aabb", 3);
        dueReach("A=Bc B=a|aab", "aac", 2);
        dueReach("A=BBc B=b|", "bbbc", 2);
        // A rule that never ends takes tokens away, but lets nothing come behind it.
        dueReach("A=aA", "aaa", 3);
        dueReach("A=Bb B=aB", "aab", 2);
    }

    private static void dueExpected(String grammar, String input, int place, String letters) {
        FirstTrees x = Checks.of(grammar, input);
        String name = grammar + " on '" + input + "': expected(" + place + ")";
        Checks.due(name, x.expected(place), Checks.set(letters));
    }

    private static void expected() {
        dueExpected("A=", "", 0, "$");
        dueExpected("A=", "a", 0, "$");
        dueExpected("A=", "a", 1, "");
        dueExpected("A=a", "", 0, "a");
        dueExpected("A=a", "b", 0, "a");
        dueExpected("A=a", "b", 1, "");
        dueExpected("A=a", "a", 1, "$");
        dueExpected("A=Bc B=b|", "", 0, "bc");
        dueExpected("A=Bc B=b|", "b", 1, "c");
        dueExpected("A=aB|ac B=b|", "ac", 1, "bc$");
        // B never ends: what stands behind it does not come.
        dueExpected("A=Bb B=aB", "aa", 2, "a");
        // The place is not reached.
        dueExpected("A=abc", "acc", 2, "");
        dueExpected("A=abc", "acc", 3, "");
        dueExpected("A=abc", "acc", 1, "b");
    }

    private static void expectedAtEachPlace() {
        FirstTrees x = Checks.of("A=BC B=a|xAy C=zBC|", "azxaya");
        String[] want = {"ax", "z$", "ax", "ax", "yz", "z$", ""};
        for (int place = 0; place < want.length; place++) {
            Checks.due("sums: expected(" + place + ")", x.expected(place), Checks.set(want[place]));
        }
        Checks.due("sums: reach()", x.reach(), 5);
        Checks.due("sums: parse()", x.parse(), 0);
        x.keep(5);
        Checks.due("sums: parse() of five", x.parse(), 1);
        Checks.due("sums: reach() of five", x.reach(), 6);
        Checks.due("sums: expected(5) of five", x.expected(5), Checks.set("z$"));
    }

    /** Each token is set in the place of those that are there, and the reach looked at. */
    private static void expectedAsTheDocumentSays() {
        String grammar = "A=BCa|aaB B=abB|b|C C=cc|";
        String input = "ababcca";
        for (int place = 0; place <= input.length(); place++) {
            long want = 0;
            FirstTrees y = Checks.of(grammar);
            for (int t = 0; t < 26; t++) {
                Checks.setInput(y, input.substring(0, place) + (char) ('a' + t));
                want |= y.reach() > place ? 1L << t : 0L;
            }
            Checks.setInput(y, input.substring(0, place));
            want |= y.parse() > 0 ? Checks.END : 0L;
            FirstTrees x = Checks.of(grammar, input);
            Checks.due(grammar + ": expected(" + place + ")", x.expected(place), want);
        }
    }

    private static void wrongPlaces() {
        FirstTrees x = Checks.of("A=aA|", "aa");
        Checks.dueThrowOnly("expected(3)", Checks.ARGUMENT, x, () -> x.expected(3));
        Checks.dueThrowOnly("expected(-1)", Checks.ARGUMENT, x, () -> x.expected(-1));
        Checks.dueThrowOnly("expected(greatest)", Checks.ARGUMENT, x,
                () -> x.expected(Integer.MAX_VALUE));
        x.clear();
        Checks.dueThrowOnly("expected(3) without rules", Checks.STATE, x,
                () -> x.expected(3));
        Checks.dueThrowOnly("reach() without rules", Checks.STATE, x,
                () -> x.reach());
    }

    private static void fullInput() {
        FirstTrees x = new FirstTrees();
        x.rule();
        x.alternative(0);
        x.symbol(0, 31);
        x.symbol(0, -1);
        x.alternative(0);
        for (int k = 0; k < 60; k++) {
            x.token(31);
        }
        Checks.due("reach() of 60", x.reach(), 61);
        Checks.due("expected(60)", x.expected(60), 1L << 31 | Checks.END);
        Checks.due("expected(0)", x.expected(0), 1L << 31 | Checks.END);
        Checks.dueThrow("expected(61)", Checks.ARGUMENT, () -> x.expected(61));
    }
}

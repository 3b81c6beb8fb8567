/** The run of README.md, with the answers that it tells. */
public final class ReadmeTest {
    public static void main(String[] args) {
        FirstTrees x = new FirstTrees();
        int sum = x.rule();
        x.alternative(sum);
        x.symbol(sum, 0);
        x.alternative(sum);
        x.symbol(sum, 0);
        x.symbol(sum, 1);
        x.symbol(sum, -1 - sum);
        Checks.due("fault()", x.fault(), 0);

        x.token(0);
        x.token(1);
        Checks.due("parse() of 'n' '+'", x.parse(), 0);
        Checks.due("reach() of 'n' '+'", x.reach(), 2);
        Checks.due("expected(2)", x.expected(2), 1);

        x.token(0);
        Checks.due("parse() of 'n' '+' 'n'", x.parse(), 1);
        Checks.due("nodes()", x.nodes(), 2);
        Checks.due("node(0, 1)", x.node(0, 1), 1);
        Checks.due("node(0, 6)", x.node(0, 6), 2);
        Checks.end();
    }
}

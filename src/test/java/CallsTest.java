import java.lang.management.ManagementFactory;

/** "An object is used for at most 512 calls": so long it answers rightly, and stays small. */
public final class CallsTest {
    private static final int CALLS = 512;

    /** A run has room for 7.3 million elements; an int has 4 bytes, and no element has fewer. */
    private static final long MOST_BYTES = 4 * 1000000L;

    private static int calls;

    public static void main(String[] args) {
        answersUntilTheLastCall();
        treesUntilTheLastCall();
        refusalsUntilTheLastCall();
        roomOfTheDearestCalls();
        Checks.end();
    }

    private static void answersUntilTheLastCall() {
        FirstTrees x = Checks.of("A=aA|b");
        calls = 6;
        for (int n = 1; n < 60; n++, calls++) {
            x.token(0);
        }
        while (calls < CALLS - 1) {
            int place = calls % 60;
            Checks.due("call " + calls + ": expected()", x.expected(place), Checks.set("ab"));
            calls++;
        }
        Checks.due("the 512th call: reach()", x.reach(), 59);
    }

    /** The input grows and shrinks, and each tree replaces the one before. */
    private static void treesUntilTheLastCall() {
        FirstTrees x = Checks.of("A=aA|");
        calls = 5;
        while (calls < CALLS - 7) {
            int n = calls % 60;
            x.keep(0);
            calls++;
            for (int k = 0; k < n && calls < CALLS - 7; k++, calls++) {
                x.token(0);
            }
            int size = x.count(1);
            Checks.due("call " + calls + ": parse()", x.parse(), 1);
            Checks.due("call " + calls + ": nodes()", x.nodes(), size + 1);
            calls += 3;
        }
        x.keep(0);
        Checks.due("the last parse()", x.parse(), 1);
        Checks.due("the last nodes()", x.nodes(), 1);
    }

    private static void refusalsUntilTheLastCall() {
        FirstTrees x = Checks.of("A=aA|b");
        for (calls = 6; calls < CALLS - 3; calls++) {
            Checks.dueThrow("call " + calls + ": keep(1)", Checks.ARGUMENT, () -> x.keep(1));
        }
        Checks.due("the 510th call: token(1)", x.token(1), 1);
        Checks.due("the 511th call: parse()", x.parse(), 1);
        Checks.due("the 512th call: node(0, 1)", x.node(0, 1), 1);
    }

    private static void roomOfTheDearestCalls() {
        dearestCalls();
        long before = allocated();
        dearestCalls();
        long used = allocated() - before;
        System.out.println("the dearest calls use " + used + " bytes");
        Checks.due("they use at most " + MOST_BYTES, used <= MOST_BYTES, true);
    }

    private static long allocated() {
        return ((com.sun.management.ThreadMXBean) ManagementFactory.getThreadMXBean())
                .getThreadAllocatedBytes(Thread.currentThread().getId());
    }

    /** Nearly 2000 nodes, with much to come behind them; all other calls ask for them again. */
    private static void dearestCalls() {
        FirstTrees x = new FirstTrees();
        Checks.addRules(x, "A=BEEEEEEE| B=CEEEEEEE C=DEEEEEEE D=aAEEEEEE E=|b");
        for (int n = 0; n < 60; n++) {
            x.token(0);
        }
        int trees = 0;
        for (int n = 0; n < 100; n++) {
            trees += x.parse();
            trees += x.reach() == 61 ? 1 : 0;
            trees += x.expected(60) != 0 ? 1 : 0;
            trees += x.fault() + (x.first(0) == 1 ? 1 : 0);
        }
        Checks.due("the dearest calls", trees, 400);
    }
}
